abbrev rmX19_box_0 (RC RS : Nat) : Room := { frames := 2, cells := RC, slots := RS, locals := 32 }
theorem hdX19_box : yX19_box.cls ≠ "java/lang/invoke/MethodHandle" ∧ yX19_box.cls ≠ "java/lang/invoke/VarHandle" ∧ (parseMethodDescriptor yX19_box.desc).map (fun d => d.parameters.length) = some 1 := by decide +kernel
theorem hroX19_box_0_X19_stir (RC RS : Nat) : rmX19_stir.frames + 1 ≤ (rmX19_box_0 RC RS).frames ∧ 8 + (1 + 11) + rmX19_stir.locals ≤ (rmX19_box_0 RC RS).locals := ⟨Nat.le_of_ble_eq_true rfl, Nat.le_of_ble_eq_true rfl⟩
section SX19_box_0
variable {p : Program} {l : Launch} {e : Env} {s : State} {m : MethodId} {args : Array Value} {below : List Frame} {meth : Method} {c : Code} {D : va_G} {cy : Nat → ClassId} {B : Nat → Nat → Nat} {ids : List (Nat × Nat)} {A : Nat → Prop}
noncomputable def fX19_box_0_15 (N RC RS : Nat) (x0 : Nat) (s0 : Nat) (s1 : Int32) (ids : List (Nat × Nat)) (z : St) : Option (Int32 × St × List (Nat × Nat)) := zl (zsI z 19 25 s0 s1) fun z2 => if (zgI z2 19 25 x0) ≤ 0 then (zl (Int32.toNatClampNeg (zgI z2 19 19 x0)) fun n1 => zqc (zfr (znmX12 n1) ids ∧ 13 ≤ RC ∧ 358 ≤ RS) <| zl (zmg (znmX12 n1) (zmwX12 n1 ) z2) fun z4 => zl (ids ++ znmX12 n1) fun I1 => zl (zsI z4 12 0 n1 (zgI z4 19 19 x0)) fun z5 => zl (zsI z5 12 1 n1 (0 : Int32)) fun z6 => zl (4 * n1 + 0) fun n2 => zqc (zfr (znmX17 n2) I1 ∧ 15 ≤ RC ∧ 557 ≤ RS) <| zl (zmg (znmX17 n2) (zmwX17 n2 ) z6) fun z7 => zl (I1 ++ znmX17 n2) fun I2 => zl (zsQ z7 148 n1 (Int32.toNatClampNeg (0 : Int32)) (some n2)) fun z9 => zl (4 * n1 + 1) fun n3 => zqc (zfr (znmX17 n3) I2 ∧ 17 ≤ RC ∧ 756 ≤ RS) <| zl (zmg (znmX17 n3) (zmwX17 n3 ) z9) fun z10 => zl (I2 ++ znmX17 n3) fun I3 => zl (zsQ z10 148 n1 (Int32.toNatClampNeg (1 : Int32)) (some n3)) fun z12 => zl (4 * n1 + 2) fun n4 => zqc (zfr (znmX17 n4) I3 ∧ 19 ≤ RC ∧ 955 ≤ RS) <| zl (zmg (znmX17 n4) (zmwX17 n4 ) z12) fun z13 => zl (I3 ++ znmX17 n4) fun I4 => zl (zsQ z13 148 n1 (Int32.toNatClampNeg (2 : Int32)) (some n4)) fun z15 => zl (4 * n1 + 3) fun n5 => zqc (zfr (znmX17 n5) I4 ∧ 21 ≤ RC ∧ 1154 ≤ RS) <| zl (zmg (znmX17 n5) (zmwX17 n5 ) z15) fun z16 => zl (I4 ++ znmX17 n5) fun I5 => zl (zsQ z16 148 n1 (Int32.toNatClampNeg (3 : Int32)) (some n5)) fun z18 => zl (zsA z18 150 n1 (Int32.toNatClampNeg (0 : Int32)) (-1 : Int32)) fun z20 => zl (zsA z20 150 n1 (Int32.toNatClampNeg (1 : Int32)) (-1 : Int32)) fun z22 => zl (zsA z22 150 n1 (Int32.toNatClampNeg (2 : Int32)) (-1 : Int32)) fun z24 => zl (zsA z24 150 n1 (Int32.toNatClampNeg (3 : Int32)) (-1 : Int32)) fun z26 => zl (zsA z26 150 n1 (Int32.toNatClampNeg (4 : Int32)) (-1 : Int32)) fun z28 => zl (zsA z28 150 n1 (Int32.toNatClampNeg (5 : Int32)) (-1 : Int32)) fun z30 => zl (zsA z30 150 n1 (Int32.toNatClampNeg (6 : Int32)) (-1 : Int32)) fun z32 => zl (zsA z32 150 n1 (Int32.toNatClampNeg (7 : Int32)) (-1 : Int32)) fun z34 => zl (zsA z34 150 n1 (Int32.toNatClampNeg (8 : Int32)) (-1 : Int32)) fun z36 => zl (zsA z36 150 n1 (Int32.toNatClampNeg (9 : Int32)) (-1 : Int32)) fun z38 => zl (zsA z38 150 n1 (Int32.toNatClampNeg (10 : Int32)) (-1 : Int32)) fun z40 => zl (zsA z40 150 n1 (Int32.toNatClampNeg (11 : Int32)) (-1 : Int32)) fun z42 => zl (zsA z42 150 n1 (Int32.toNatClampNeg (12 : Int32)) (-1 : Int32)) fun z44 => zl (zsA z44 150 n1 (Int32.toNatClampNeg (13 : Int32)) (-1 : Int32)) fun z46 => zl (zsA z46 150 n1 (Int32.toNatClampNeg (14 : Int32)) (-1 : Int32)) fun z48 => zl (zsA z48 150 n1 (Int32.toNatClampNeg (15 : Int32)) (-1 : Int32)) fun z50 => zl (6 * n1 + 0) fun n6 => zqc (zfr (znmX13 n6) I5 ∧ 22 ≤ RC ∧ 1164 ≤ RS) <| zl (zmg (znmX13 n6) (zmwX13 n6 ) z50) fun z51 => zl (I5 ++ znmX13 n6) fun I6 => zl (zsQ z51 158 n1 (Int32.toNatClampNeg (0 : Int32)) (some n6)) fun z53 => zl (zgQ z53 158 n1 (Int32.toNatClampNeg (0 : Int32))) fun y55 => zl (6 * n1 + 0) fun n7 => zqc (zfr (znmX14 n7) I6 ∧ 26 ≤ RC ∧ 7355 ≤ RS) <| zl (zmg (znmX14 n7) (zmwX14 n7 ) z53) fun z56 => zl (I6 ++ znmX14 n7) fun I7 => zd y55 fun a57 => zl (zsR z56 13 4 a57 (some n7)) fun z58 => zl (6 * n1 + 1) fun n8 => zqc (zfr (znmX13 n8) I7 ∧ 27 ≤ RC ∧ 7365 ≤ RS) <| zl (zmg (znmX13 n8) (zmwX13 n8 ) z58) fun z59 => zl (I7 ++ znmX13 n8) fun I8 => zl (zsQ z59 158 n1 (Int32.toNatClampNeg (1 : Int32)) (some n8)) fun z61 => zl (zgQ z61 158 n1 (Int32.toNatClampNeg (1 : Int32))) fun y63 => zl (6 * n1 + 1) fun n9 => zqc (zfr (znmX14 n9) I8 ∧ 31 ≤ RC ∧ 13556 ≤ RS) <| zl (zmg (znmX14 n9) (zmwX14 n9 ) z61) fun z64 => zl (I8 ++ znmX14 n9) fun I9 => zd y63 fun a65 => zl (zsR z64 13 4 a65 (some n9)) fun z66 => zl (6 * n1 + 2) fun n10 => zqc (zfr (znmX13 n10) I9 ∧ 32 ≤ RC ∧ 13566 ≤ RS) <| zl (zmg (znmX13 n10) (zmwX13 n10 ) z66) fun z67 => zl (I9 ++ znmX13 n10) fun I10 => zl (zsQ z67 158 n1 (Int32.toNatClampNeg (2 : Int32)) (some n10)) fun z69 => zl (zgQ z69 158 n1 (Int32.toNatClampNeg (2 : Int32))) fun y71 => zl (6 * n1 + 2) fun n11 => zqc (zfr (znmX14 n11) I10 ∧ 36 ≤ RC ∧ 19757 ≤ RS) <| zl (zmg (znmX14 n11) (zmwX14 n11 ) z69) fun z72 => zl (I10 ++ znmX14 n11) fun I11 => zd y71 fun a73 => zl (zsR z72 13 4 a73 (some n11)) fun z74 => zl (6 * n1 + 3) fun n12 => zqc (zfr (znmX13 n12) I11 ∧ 37 ≤ RC ∧ 19767 ≤ RS) <| zl (zmg (znmX13 n12) (zmwX13 n12 ) z74) fun z75 => zl (I11 ++ znmX13 n12) fun I12 => zl (zsQ z75 158 n1 (Int32.toNatClampNeg (3 : Int32)) (some n12)) fun z77 => zl (zgQ z77 158 n1 (Int32.toNatClampNeg (3 : Int32))) fun y79 => zl (6 * n1 + 3) fun n13 => zqc (zfr (znmX14 n13) I12 ∧ 41 ≤ RC ∧ 25958 ≤ RS) <| zl (zmg (znmX14 n13) (zmwX14 n13 ) z77) fun z80 => zl (I12 ++ znmX14 n13) fun I13 => zd y79 fun a81 => zl (zsR z80 13 4 a81 (some n13)) fun z82 => zl (6 * n1 + 4) fun n14 => zqc (zfr (znmX13 n14) I13 ∧ 42 ≤ RC ∧ 25968 ≤ RS) <| zl (zmg (znmX13 n14) (zmwX13 n14 ) z82) fun z83 => zl (I13 ++ znmX13 n14) fun I14 => zl (zsQ z83 158 n1 (Int32.toNatClampNeg (4 : Int32)) (some n14)) fun z85 => zl (zgQ z85 158 n1 (Int32.toNatClampNeg (4 : Int32))) fun y87 => zl (6 * n1 + 4) fun n15 => zqc (zfr (znmX14 n15) I14 ∧ 46 ≤ RC ∧ 32159 ≤ RS) <| zl (zmg (znmX14 n15) (zmwX14 n15 ) z85) fun z88 => zl (I14 ++ znmX14 n15) fun I15 => zd y87 fun a89 => zl (zsR z88 13 4 a89 (some n15)) fun z90 => zl (6 * n1 + 5) fun n16 => zqc (zfr (znmX13 n16) I15 ∧ 47 ≤ RC ∧ 32169 ≤ RS) <| zl (zmg (znmX13 n16) (zmwX13 n16 ) z90) fun z91 => zl (I15 ++ znmX13 n16) fun I16 => zl (zsQ z91 158 n1 (Int32.toNatClampNeg (5 : Int32)) (some n16)) fun z93 => zl (zgQ z93 158 n1 (Int32.toNatClampNeg (5 : Int32))) fun y95 => zl (6 * n1 + 5) fun n17 => zqc (zfr (znmX14 n17) I16 ∧ 51 ≤ RC ∧ 38360 ≤ RS) <| zl (zmg (znmX14 n17) (zmwX14 n17 ) z93) fun z96 => zl (I16 ++ znmX14 n17) fun I17 => zd y95 fun a97 => zl (zsR z96 13 4 a97 (some n17)) fun z98 => zl (zsA z98 155 n1 (Int32.toNatClampNeg (0 : Int32)) (-1 : Int32)) fun z100 => zl (zsA z100 156 n1 (Int32.toNatClampNeg (0 : Int32)) (-1 : Int32)) fun z102 => zl (zsA z102 157 n1 (Int32.toNatClampNeg (0 : Int32)) (-1 : Int32)) fun z104 => zl (zsA z104 155 n1 (Int32.toNatClampNeg (1 : Int32)) (-1 : Int32)) fun z106 => zl (zsA z106 156 n1 (Int32.toNatClampNeg (1 : Int32)) (-1 : Int32)) fun z108 => zl (zsA z108 157 n1 (Int32.toNatClampNeg (1 : Int32)) (-1 : Int32)) fun z110 => zl (zsA z110 155 n1 (Int32.toNatClampNeg (2 : Int32)) (-1 : Int32)) fun z112 => zl (zsA z112 156 n1 (Int32.toNatClampNeg (2 : Int32)) (-1 : Int32)) fun z114 => zl (zsA z114 157 n1 (Int32.toNatClampNeg (2 : Int32)) (-1 : Int32)) fun z116 => zl (zsA z116 155 n1 (Int32.toNatClampNeg (3 : Int32)) (-1 : Int32)) fun z118 => zl (zsA z118 156 n1 (Int32.toNatClampNeg (3 : Int32)) (-1 : Int32)) fun z120 => zl (zsA z120 157 n1 (Int32.toNatClampNeg (3 : Int32)) (-1 : Int32)) fun z122 => zl (zsA z122 155 n1 (Int32.toNatClampNeg (4 : Int32)) (-1 : Int32)) fun z124 => zl (zsA z124 156 n1 (Int32.toNatClampNeg (4 : Int32)) (-1 : Int32)) fun z126 => zl (zsA z126 157 n1 (Int32.toNatClampNeg (4 : Int32)) (-1 : Int32)) fun z128 => zl (zsA z128 155 n1 (Int32.toNatClampNeg (5 : Int32)) (-1 : Int32)) fun z130 => zl (zsA z130 156 n1 (Int32.toNatClampNeg (5 : Int32)) (-1 : Int32)) fun z132 => zl (zsA z132 157 n1 (Int32.toNatClampNeg (5 : Int32)) (-1 : Int32)) fun z134 => zl (zsA z134 155 n1 (Int32.toNatClampNeg (6 : Int32)) (-1 : Int32)) fun z136 => zl (zsA z136 156 n1 (Int32.toNatClampNeg (6 : Int32)) (-1 : Int32)) fun z138 => zl (zsA z138 157 n1 (Int32.toNatClampNeg (6 : Int32)) (-1 : Int32)) fun z140 => zl (zsA z140 155 n1 (Int32.toNatClampNeg (7 : Int32)) (-1 : Int32)) fun z142 => zl (zsA z142 156 n1 (Int32.toNatClampNeg (7 : Int32)) (-1 : Int32)) fun z144 => zl (zsA z144 157 n1 (Int32.toNatClampNeg (7 : Int32)) (-1 : Int32)) fun z146 => zl (zsA z146 155 n1 (Int32.toNatClampNeg (8 : Int32)) (-1 : Int32)) fun z148 => zl (zsA z148 156 n1 (Int32.toNatClampNeg (8 : Int32)) (-1 : Int32)) fun z150 => zl (zsA z150 157 n1 (Int32.toNatClampNeg (8 : Int32)) (-1 : Int32)) fun z152 => zl (zsA z152 155 n1 (Int32.toNatClampNeg (9 : Int32)) (-1 : Int32)) fun z154 => zl (zsA z154 156 n1 (Int32.toNatClampNeg (9 : Int32)) (-1 : Int32)) fun z156 => zl (zsA z156 157 n1 (Int32.toNatClampNeg (9 : Int32)) (-1 : Int32)) fun z158 => zl (zsA z158 155 n1 (Int32.toNatClampNeg (10 : Int32)) (-1 : Int32)) fun z160 => zl (zsA z160 156 n1 (Int32.toNatClampNeg (10 : Int32)) (-1 : Int32)) fun z162 => zl (zsA z162 157 n1 (Int32.toNatClampNeg (10 : Int32)) (-1 : Int32)) fun z164 => zl (zsA z164 155 n1 (Int32.toNatClampNeg (11 : Int32)) (-1 : Int32)) fun z166 => zl (zsA z166 156 n1 (Int32.toNatClampNeg (11 : Int32)) (-1 : Int32)) fun z168 => zl (zsA z168 157 n1 (Int32.toNatClampNeg (11 : Int32)) (-1 : Int32)) fun z170 => zl (zsA z170 155 n1 (Int32.toNatClampNeg (12 : Int32)) (-1 : Int32)) fun z172 => zl (zsA z172 156 n1 (Int32.toNatClampNeg (12 : Int32)) (-1 : Int32)) fun z174 => zl (zsA z174 157 n1 (Int32.toNatClampNeg (12 : Int32)) (-1 : Int32)) fun z176 => zl (zsA z176 155 n1 (Int32.toNatClampNeg (13 : Int32)) (-1 : Int32)) fun z178 => zl (zsA z178 156 n1 (Int32.toNatClampNeg (13 : Int32)) (-1 : Int32)) fun z180 => zl (zsA z180 157 n1 (Int32.toNatClampNeg (13 : Int32)) (-1 : Int32)) fun z182 => zl (zsA z182 155 n1 (Int32.toNatClampNeg (14 : Int32)) (-1 : Int32)) fun z184 => zl (zsA z184 156 n1 (Int32.toNatClampNeg (14 : Int32)) (-1 : Int32)) fun z186 => zl (zsA z186 157 n1 (Int32.toNatClampNeg (14 : Int32)) (-1 : Int32)) fun z188 => zl (zsA z188 155 n1 (Int32.toNatClampNeg (15 : Int32)) (-1 : Int32)) fun z190 => zl (zsA z190 156 n1 (Int32.toNatClampNeg (15 : Int32)) (-1 : Int32)) fun z192 => zl (zsA z192 157 n1 (Int32.toNatClampNeg (15 : Int32)) (-1 : Int32)) fun z194 => zl (zsA z194 155 n1 (Int32.toNatClampNeg (16 : Int32)) (-1 : Int32)) fun z196 => zl (zsA z196 156 n1 (Int32.toNatClampNeg (16 : Int32)) (-1 : Int32)) fun z198 => zl (zsA z198 157 n1 (Int32.toNatClampNeg (16 : Int32)) (-1 : Int32)) fun z200 => zl (zsA z200 155 n1 (Int32.toNatClampNeg (17 : Int32)) (-1 : Int32)) fun z202 => zl (zsA z202 156 n1 (Int32.toNatClampNeg (17 : Int32)) (-1 : Int32)) fun z204 => zl (zsA z204 157 n1 (Int32.toNatClampNeg (17 : Int32)) (-1 : Int32)) fun z206 => zl (zsA z206 155 n1 (Int32.toNatClampNeg (18 : Int32)) (-1 : Int32)) fun z208 => zl (zsA z208 156 n1 (Int32.toNatClampNeg (18 : Int32)) (-1 : Int32)) fun z210 => zl (zsA z210 157 n1 (Int32.toNatClampNeg (18 : Int32)) (-1 : Int32)) fun z212 => zl (zsA z212 155 n1 (Int32.toNatClampNeg (19 : Int32)) (-1 : Int32)) fun z214 => zl (zsA z214 156 n1 (Int32.toNatClampNeg (19 : Int32)) (-1 : Int32)) fun z216 => zl (zsA z216 157 n1 (Int32.toNatClampNeg (19 : Int32)) (-1 : Int32)) fun z218 => zl (zsA z218 155 n1 (Int32.toNatClampNeg (20 : Int32)) (-1 : Int32)) fun z220 => zl (zsA z220 156 n1 (Int32.toNatClampNeg (20 : Int32)) (-1 : Int32)) fun z222 => zl (zsA z222 157 n1 (Int32.toNatClampNeg (20 : Int32)) (-1 : Int32)) fun z224 => zl (zsA z224 155 n1 (Int32.toNatClampNeg (21 : Int32)) (-1 : Int32)) fun z226 => zl (zsA z226 156 n1 (Int32.toNatClampNeg (21 : Int32)) (-1 : Int32)) fun z228 => zl (zsA z228 157 n1 (Int32.toNatClampNeg (21 : Int32)) (-1 : Int32)) fun z230 => zl (zsA z230 155 n1 (Int32.toNatClampNeg (22 : Int32)) (-1 : Int32)) fun z232 => zl (zsA z232 156 n1 (Int32.toNatClampNeg (22 : Int32)) (-1 : Int32)) fun z234 => zl (zsA z234 157 n1 (Int32.toNatClampNeg (22 : Int32)) (-1 : Int32)) fun z236 => zl (zsA z236 155 n1 (Int32.toNatClampNeg (23 : Int32)) (-1 : Int32)) fun z238 => zl (zsA z238 156 n1 (Int32.toNatClampNeg (23 : Int32)) (-1 : Int32)) fun z240 => zl (zsA z240 157 n1 (Int32.toNatClampNeg (23 : Int32)) (-1 : Int32)) fun z242 => zk (zgI z242 19 19 x0) 16 <| zl (zsQ z242 186 x0 (Int32.toNatClampNeg (zgI z242 19 19 x0)) (some n1)) fun z244 => zl (zsI z244 19 19 x0 ((zgI z244 19 19 x0) + (1 : Int32))) fun z245 => zc (fX19_stir N x0 z245) fun _ z247 => some ((zgI z247 12 0 n1), z247, I17)) else (some ((0 : Int32), z2, ids))
set_option maxHeartbeats 16000000 in
set_option maxRecDepth 100000 in
theorem bX19_box_0_15 (hst : zSt B ids) (h9 : zI9 ids) {N RC RS : Nat} (F : zFx p m c cX19_box 4 s args RX19 D cy B ids A) (hA : ∀ q : Nat, s.heap.size ≤ q → A q) (hret : meth.sig.returnType = (some .int)) (hlocks : meth.locks = false) (hAO : zAO s) (x0 : Nat) (s0 : Nat) (s1 : Int32) (hx0 : (19, x0) ∈ ids) (hs0 : (19, s0) ∈ ids) {r : Int32} {z' : St} {I' : List (Nat × Nat)} {z : St} {H : Heap} {locs : List Loc} {ls : Array Slot} (hr : zRep D cy B ids A s.heap z H locs) (hl : lv_has ls 4 [(0, .ref (B 19 x0)), (1, .int (0 : Int32))]) (h : fX19_box_0_15 N RC RS x0 s0 s1 ids z = some (r, z', I')) : W p l e (rmX19_box_0 RC RS) s m args below meth c H locs 0 0 (MQ below (zQm D cy (some (.int r)) z' I' B ids A) args s RC RS A) (F0 m 15 ls [.int s1, .ref (B 19 s0)]) := by
  unfold fX19_box_0_15 at h
  have hx := zExt_rf B ids
  refine pf19_140 F hs0 hr dX19_box_15 s1 (fun H locs z2 ez2 hr => ?_)
  replace h := zl_sub ez2 h
  clear ez2
  refine lv_aload_n F.1 F.2.1 dX19_box_18 rfl (lv_at hl 0 rfl) ?_
  refine gf19_140 F hx0 hr dX19_box_19 ?_
  refine lv_if_le (tgt := 27) F.1 F.2.1 dX19_box_22 (by decide) (fun c3 => ?_) (fun c3 => ?_)
  · replace h := zi_t c3 h
    obtain ⟨n1, en1⟩ : ∃ y : Nat, y = Int32.toNatClampNeg (zgI z2 19 19 x0) := ⟨_, rfl⟩
    replace h := zl_sub en1 h
    replace h := zqc_some h
    obtain ⟨⟨hfr1, hca1, hcb1⟩, h⟩ := h
    refine zc_new (k := 12) (T := TX12) (N := 30) (fs := [.int 0, .int 0, .null, .int 0, .int 0, .int 0, .int 0, .int 0, .int 0, .int 0, .null, .int 0, .null, .int 0, .null, .null, .int 0, .int 0, .int 0, .null, .null, .null, .int 0, .int 0, .int 0, .null, .null, .null, .null, .int 0]) tyX12 tyX12_ok rfl inX12 zq_1881 zq_1990 zq_17 (zFx_k F hA) (zRC_of F hr) (by decide +kernel) (Nat.le_trans (Nat.le_of_ble_eq_true rfl) hca1) (Nat.le_trans (Nat.le_of_ble_eq_true rfl) hcb1) dX19_box_27 (fun q H hq => ?_)
    have hr := zRC_rep hq
    refine lv_dup F.1 F.2.1 dX19_box_30 rfl ?_
    refine zK_callN (cs := []) (As := []) (rest := [.ref q]) hAO zn_1991 rfl zq_1992 zq_1993 zq_17 hdX12_init (okX12_init l D cy q ) (zFx_k F hA) hq hl.1 rfl (Nat.le_of_ble_eq_true rfl) dX19_box_31 ⟨Nat.le_of_ble_eq_true rfl, Nat.le_of_ble_eq_true rfl⟩ ⟨Nat.le_trans (Nat.le_of_ble_eq_true rfl) hca1, Nat.le_trans (Nat.le_of_ble_eq_true rfl) hcb1⟩ (fun H locs cs1 hp hq => ?_)
    obtain ⟨w1, w2, w3, w4, w5, w6, w7, w8, w9, w10, w11, w12, rfl⟩ := hp
    obtain ⟨B1, hB1, eo1, hst, hD1, h9, hr⟩ := zmkX12 hst h9 n1  hfr1 hq
    clear hq
    generalize eI1 : ids ++ znmX12 n1 = I1 at hst hD1 h9 hr
    have F0 := F
    have F := zFx_nx F hst hD1
    have hi1 : ∀ k o, (k, o) ∈ ids → (k, o) ∈ I1 := fun k o h => eI1 ▸ List.mem_append_left _ h
    have hn1 : (12, n1) ∈ I1 := eI1 ▸ List.mem_append_right _ (List.mem_of_getElem? (l := znmX12 n1) (i := 0) rfl)
    have hx := zExt_nx hx hB1 hi1
    obtain ⟨z4, ez4⟩ : ∃ y, y = zmg (znmX12 n1) (zmwX12 n1 ) z2 := ⟨_, rfl⟩
    rw [← ez4] at hr
    replace h := zl_sub ez4 h
    clear ez4
    replace h := zl_sub eI1.symm h
    have ha1_0 : (19, x0) ∈ I1 := hi1 _ _ hx0
    replace hl : lv_has ls 4 [(0, .ref (B1 19 x0)), (1, .int (0 : Int32))] := by
            rw [hB1 19 x0 hx0]; exact hl
    subst eo1
    refine lv_astore_n (lv' := [(2, .ref (B1 12 n1)), (0, .ref (B1 19 x0)), (1, .int (0 : Int32))]) F.1 F.2.1 dX19_box_34 rfl hl (by decide) rfl (fun ls hl => ?_)
    refine lv_aload_n F.1 F.2.1 dX19_box_35 rfl (lv_at hl 0 rfl) ?_
    refine lv_aload_n F.1 F.2.1 dX19_box_36 rfl (lv_at hl 1 rfl) ?_
    refine gf19_831 F ha1_0 hr dX19_box_37 ?_
    refine pf19_310 F hn1 hr dX19_box_40 (zgI z4 19 19 x0) (fun H locs z5 ez5 hr => ?_)
    replace h := zl_sub ez5 h
    clear ez5
    refine lv_aload_n F.1 F.2.1 dX19_box_43 rfl (lv_at hl 0 rfl) ?_
    refine lv_iload_n F.1 F.2.1 dX19_box_44 rfl (lv_at hl 2 rfl) ?_
    refine pf19_298 F hn1 hr dX19_box_45 (0 : Int32) (by decide) (fun H locs z6 ez6 hr => ?_)
    replace h := zl_sub ez6 h
    clear ez6
    refine lv_iconst (v := (0 : Int32)) F.1 F.2.1 dX19_box_48 (by decide) ?_
    refine lv_istore_n (lv' := [(3, .int (0 : Int32)), (2, .ref (B1 12 n1)), (0, .ref (B1 19 x0)), (1, .int (0 : Int32))]) F.1 F.2.1 dX19_box_49 rfl hl (by decide) rfl (fun ls hl => ?_)
    refine lv_iload_n F.1 F.2.1 dX19_box_50 rfl (lv_at hl 0 rfl) ?_
    refine lv_iconst (v := (4 : Int32)) F.1 F.2.1 dX19_box_51 (by decide) ?_
    refine lv_icmp_ge (tgt := 74) F.1 F.2.1 dX19_box_52 (by decide) (fun hc => absurd hc (by decide)) (fun _ => ?_)
    refine lv_aload_n F.1 F.2.1 dX19_box_55 rfl (lv_at hl 1 rfl) ?_
    refine gf19_395 F hn1 hr dX19_box_56 ?_
    refine lv_iload_n F.1 F.2.1 dX19_box_59 rfl (lv_at hl 0 rfl) ?_
    obtain ⟨n2, en2⟩ : ∃ y : Nat, y = 4 * n1 + 0 := ⟨_, rfl⟩
    replace h := zl_sub en2 h
    replace h := zqc_some h
    obtain ⟨⟨hfr2, hca2, hcb2⟩, h⟩ := h
    refine zc_new (k := 17) (T := TX17) (N := 7) (fs := [.int 0, .int 0, .int 0, .int 0, .int 0, .int 0, .null]) tyX17 tyX17_ok rfl inX17 zq_2110 zq_2111 zq_18 (zFx_k F hA) (zRC_of F hr) (by decide +kernel) (Nat.le_trans (Nat.le_of_ble_eq_true rfl) hca2) (Nat.le_trans (Nat.le_of_ble_eq_true rfl) hcb2) dX19_box_60 (fun q H hq => ?_)
    have hr := zRC_rep hq
    refine lv_dup F.1 F.2.1 dX19_box_63 rfl ?_
    refine zK_callN (cs := []) (As := []) (rest := [.ref q, .int (0 : Int32), .ref (B1 148 n1)]) hAO zn_2112 rfl zq_2113 zq_2114 zq_18 hdX17_init (okX17_init l D cy q ) (zFx_k F hA) hq hl.1 rfl (Nat.le_of_ble_eq_true rfl) dX19_box_64 ⟨Nat.le_of_ble_eq_true rfl, Nat.le_of_ble_eq_true rfl⟩ ⟨Nat.le_trans (Nat.le_of_ble_eq_true rfl) hca2, Nat.le_trans (Nat.le_of_ble_eq_true rfl) hcb2⟩ (fun H locs cs1 hp hq => ?_)
    obtain ⟨w1, rfl⟩ := hp
    obtain ⟨B2, hB2, eo2, hst, hD2, h9, hr⟩ := zmkX17 hst h9 n2  hfr2 hq
    clear hq
    generalize eI2 : I1 ++ znmX17 n2 = I2 at hst hD2 h9 hr
    have F0 := F
    have F := zFx_nx F hst hD2
    have hi2 : ∀ k o, (k, o) ∈ I1 → (k, o) ∈ I2 := fun k o h => eI2 ▸ List.mem_append_left _ h
    have hn2 : (17, n2) ∈ I2 := eI2 ▸ List.mem_append_right _ (List.mem_of_getElem? (l := znmX17 n2) (i := 0) rfl)
    have hx := zExt_nx hx hB2 hi2
    obtain ⟨z7, ez7⟩ : ∃ y, y = zmg (znmX17 n2) (zmwX17 n2 ) z6 := ⟨_, rfl⟩
    rw [← ez7] at hr
    replace h := zl_sub ez7 h
    clear ez7
    replace h := zl_sub eI2.symm h
    have ha2_0 : (12, n1) ∈ I2 := hi2 _ _ hn1
    have ha2_1 : (19, x0) ∈ I2 := hi2 _ _ ha1_0
    have ha2_2 : (148, n1) ∈ I2 := hi2 _ _ (zal_a F0 hn1 (j := 10) rfl)
    replace hl : lv_has ls 4 [(3, .int (0 : Int32)), (2, .ref (B2 12 n1)), (0, .ref (B2 19 x0)), (1, .int (0 : Int32))] := by
            rw [hB2 12 n1 hn1, hB2 19 x0 ha1_0]; exact hl
    rw [← hB2 148 n1 (zal_a F0 hn1 (j := 10) rfl)]
    subst eo2
    refine zr_aast (k := 148) (v := (some n2)) (T := TX17) (N := 7) (by decide) rfl (by decide) rfl rfl F ha2_2 hr dX19_box_67 (by rw [zlen_d (by decide)]; exact (by unfold vp_in; decide)) (zal_s hn2) (fun H locs z9 ez9 hr => ?_)
    replace h := zl_sub ez9 h
    clear ez9
    refine lv_iinc (v := (1 : Int32)) (lv' := [(3, .int (1 : Int32)), (2, .ref (B2 12 n1)), (0, .ref (B2 19 x0)), (1, .int (0 : Int32))]) F.1 F.2.1 dX19_box_68 hl (k := 0) rfl (by decide) (by decide) rfl (fun ls hl => ?_)
    refine lv_goto (tgt := 50) F.1 F.2.1 dX19_box_71 (by decide) ?_
    refine lv_iload_n F.1 F.2.1 dX19_box_50 rfl (lv_at hl 0 rfl) ?_
    refine lv_iconst (v := (4 : Int32)) F.1 F.2.1 dX19_box_51 (by decide) ?_
    refine lv_icmp_ge (tgt := 74) F.1 F.2.1 dX19_box_52 (by decide) (fun hc => absurd hc (by decide)) (fun _ => ?_)
    refine lv_aload_n F.1 F.2.1 dX19_box_55 rfl (lv_at hl 1 rfl) ?_
    refine gf19_395 F ha2_0 hr dX19_box_56 ?_
    refine lv_iload_n F.1 F.2.1 dX19_box_59 rfl (lv_at hl 0 rfl) ?_
    obtain ⟨n3, en3⟩ : ∃ y : Nat, y = 4 * n1 + 1 := ⟨_, rfl⟩
    replace h := zl_sub en3 h
    replace h := zqc_some h
    obtain ⟨⟨hfr3, hca3, hcb3⟩, h⟩ := h
    refine zc_new (k := 17) (T := TX17) (N := 7) (fs := [.int 0, .int 0, .int 0, .int 0, .int 0, .int 0, .null]) tyX17 tyX17_ok rfl inX17 zq_2110 zq_2111 zq_18 (zFx_k F hA) (zRC_of F hr) (by decide +kernel) (Nat.le_trans (Nat.le_of_ble_eq_true rfl) hca3) (Nat.le_trans (Nat.le_of_ble_eq_true rfl) hcb3) dX19_box_60 (fun q H hq => ?_)
    have hr := zRC_rep hq
    refine lv_dup F.1 F.2.1 dX19_box_63 rfl ?_
    refine zK_callN (cs := []) (As := []) (rest := [.ref q, .int (1 : Int32), .ref (B2 148 n1)]) hAO zn_2112 rfl zq_2113 zq_2114 zq_18 hdX17_init (okX17_init l D cy q ) (zFx_k F hA) hq hl.1 rfl (Nat.le_of_ble_eq_true rfl) dX19_box_64 ⟨Nat.le_of_ble_eq_true rfl, Nat.le_of_ble_eq_true rfl⟩ ⟨Nat.le_trans (Nat.le_of_ble_eq_true rfl) hca3, Nat.le_trans (Nat.le_of_ble_eq_true rfl) hcb3⟩ (fun H locs cs1 hp hq => ?_)
    obtain ⟨w1, rfl⟩ := hp
    obtain ⟨B3, hB3, eo3, hst, hD3, h9, hr⟩ := zmkX17 hst h9 n3  hfr3 hq
    clear hq
    generalize eI3 : I2 ++ znmX17 n3 = I3 at hst hD3 h9 hr
    have F0 := F
    have F := zFx_nx F hst hD3
    have hi3 : ∀ k o, (k, o) ∈ I2 → (k, o) ∈ I3 := fun k o h => eI3 ▸ List.mem_append_left _ h
    have hn3 : (17, n3) ∈ I3 := eI3 ▸ List.mem_append_right _ (List.mem_of_getElem? (l := znmX17 n3) (i := 0) rfl)
    have hx := zExt_nx hx hB3 hi3
    obtain ⟨z10, ez10⟩ : ∃ y, y = zmg (znmX17 n3) (zmwX17 n3 ) z9 := ⟨_, rfl⟩
    rw [← ez10] at hr
    replace h := zl_sub ez10 h
    clear ez10
    replace h := zl_sub eI3.symm h
    have ha3_0 : (12, n1) ∈ I3 := hi3 _ _ ha2_0
    have ha3_1 : (19, x0) ∈ I3 := hi3 _ _ ha2_1
    have ha3_2 : (148, n1) ∈ I3 := hi3 _ _ (zal_a F0 ha2_0 (j := 10) rfl)
    replace hl : lv_has ls 4 [(3, .int (1 : Int32)), (2, .ref (B3 12 n1)), (0, .ref (B3 19 x0)), (1, .int (0 : Int32))] := by
            rw [hB3 12 n1 ha2_0, hB3 19 x0 ha2_1]; exact hl
    rw [← hB3 148 n1 (zal_a F0 ha2_0 (j := 10) rfl)]
    subst eo3
    refine zr_aast (k := 148) (v := (some n3)) (T := TX17) (N := 7) (by decide) rfl (by decide) rfl rfl F ha3_2 hr dX19_box_67 (by rw [zlen_d (by decide)]; exact (by unfold vp_in; decide)) (zal_s hn3) (fun H locs z12 ez12 hr => ?_)
    replace h := zl_sub ez12 h
    clear ez12
    refine lv_iinc (v := (2 : Int32)) (lv' := [(3, .int (2 : Int32)), (2, .ref (B3 12 n1)), (0, .ref (B3 19 x0)), (1, .int (0 : Int32))]) F.1 F.2.1 dX19_box_68 hl (k := 0) rfl (by decide) (by decide) rfl (fun ls hl => ?_)
    refine lv_goto (tgt := 50) F.1 F.2.1 dX19_box_71 (by decide) ?_
    refine lv_iload_n F.1 F.2.1 dX19_box_50 rfl (lv_at hl 0 rfl) ?_
    refine lv_iconst (v := (4 : Int32)) F.1 F.2.1 dX19_box_51 (by decide) ?_
    refine lv_icmp_ge (tgt := 74) F.1 F.2.1 dX19_box_52 (by decide) (fun hc => absurd hc (by decide)) (fun _ => ?_)
    refine lv_aload_n F.1 F.2.1 dX19_box_55 rfl (lv_at hl 1 rfl) ?_
    refine gf19_395 F ha3_0 hr dX19_box_56 ?_
    refine lv_iload_n F.1 F.2.1 dX19_box_59 rfl (lv_at hl 0 rfl) ?_
    obtain ⟨n4, en4⟩ : ∃ y : Nat, y = 4 * n1 + 2 := ⟨_, rfl⟩
    replace h := zl_sub en4 h
    replace h := zqc_some h
    obtain ⟨⟨hfr4, hca4, hcb4⟩, h⟩ := h
    refine zc_new (k := 17) (T := TX17) (N := 7) (fs := [.int 0, .int 0, .int 0, .int 0, .int 0, .int 0, .null]) tyX17 tyX17_ok rfl inX17 zq_2110 zq_2111 zq_18 (zFx_k F hA) (zRC_of F hr) (by decide +kernel) (Nat.le_trans (Nat.le_of_ble_eq_true rfl) hca4) (Nat.le_trans (Nat.le_of_ble_eq_true rfl) hcb4) dX19_box_60 (fun q H hq => ?_)
    have hr := zRC_rep hq
    refine lv_dup F.1 F.2.1 dX19_box_63 rfl ?_
    refine zK_callN (cs := []) (As := []) (rest := [.ref q, .int (2 : Int32), .ref (B3 148 n1)]) hAO zn_2112 rfl zq_2113 zq_2114 zq_18 hdX17_init (okX17_init l D cy q ) (zFx_k F hA) hq hl.1 rfl (Nat.le_of_ble_eq_true rfl) dX19_box_64 ⟨Nat.le_of_ble_eq_true rfl, Nat.le_of_ble_eq_true rfl⟩ ⟨Nat.le_trans (Nat.le_of_ble_eq_true rfl) hca4, Nat.le_trans (Nat.le_of_ble_eq_true rfl) hcb4⟩ (fun H locs cs1 hp hq => ?_)
    obtain ⟨w1, rfl⟩ := hp
    obtain ⟨B4, hB4, eo4, hst, hD4, h9, hr⟩ := zmkX17 hst h9 n4  hfr4 hq
    clear hq
    generalize eI4 : I3 ++ znmX17 n4 = I4 at hst hD4 h9 hr
    have F0 := F
    have F := zFx_nx F hst hD4
    have hi4 : ∀ k o, (k, o) ∈ I3 → (k, o) ∈ I4 := fun k o h => eI4 ▸ List.mem_append_left _ h
    have hn4 : (17, n4) ∈ I4 := eI4 ▸ List.mem_append_right _ (List.mem_of_getElem? (l := znmX17 n4) (i := 0) rfl)
    have hx := zExt_nx hx hB4 hi4
    obtain ⟨z13, ez13⟩ : ∃ y, y = zmg (znmX17 n4) (zmwX17 n4 ) z12 := ⟨_, rfl⟩
    rw [← ez13] at hr
    replace h := zl_sub ez13 h
    clear ez13
    replace h := zl_sub eI4.symm h
    have ha4_0 : (12, n1) ∈ I4 := hi4 _ _ ha3_0
    have ha4_1 : (19, x0) ∈ I4 := hi4 _ _ ha3_1
    have ha4_2 : (148, n1) ∈ I4 := hi4 _ _ (zal_a F0 ha3_0 (j := 10) rfl)
    replace hl : lv_has ls 4 [(3, .int (2 : Int32)), (2, .ref (B4 12 n1)), (0, .ref (B4 19 x0)), (1, .int (0 : Int32))] := by
            rw [hB4 12 n1 ha3_0, hB4 19 x0 ha3_1]; exact hl
    rw [← hB4 148 n1 (zal_a F0 ha3_0 (j := 10) rfl)]
    subst eo4
    refine zr_aast (k := 148) (v := (some n4)) (T := TX17) (N := 7) (by decide) rfl (by decide) rfl rfl F ha4_2 hr dX19_box_67 (by rw [zlen_d (by decide)]; exact (by unfold vp_in; decide)) (zal_s hn4) (fun H locs z15 ez15 hr => ?_)
    replace h := zl_sub ez15 h
    clear ez15
    refine lv_iinc (v := (3 : Int32)) (lv' := [(3, .int (3 : Int32)), (2, .ref (B4 12 n1)), (0, .ref (B4 19 x0)), (1, .int (0 : Int32))]) F.1 F.2.1 dX19_box_68 hl (k := 0) rfl (by decide) (by decide) rfl (fun ls hl => ?_)
    refine lv_goto (tgt := 50) F.1 F.2.1 dX19_box_71 (by decide) ?_
    refine lv_iload_n F.1 F.2.1 dX19_box_50 rfl (lv_at hl 0 rfl) ?_
    refine lv_iconst (v := (4 : Int32)) F.1 F.2.1 dX19_box_51 (by decide) ?_
    refine lv_icmp_ge (tgt := 74) F.1 F.2.1 dX19_box_52 (by decide) (fun hc => absurd hc (by decide)) (fun _ => ?_)
    refine lv_aload_n F.1 F.2.1 dX19_box_55 rfl (lv_at hl 1 rfl) ?_
    refine gf19_395 F ha4_0 hr dX19_box_56 ?_
    refine lv_iload_n F.1 F.2.1 dX19_box_59 rfl (lv_at hl 0 rfl) ?_
    obtain ⟨n5, en5⟩ : ∃ y : Nat, y = 4 * n1 + 3 := ⟨_, rfl⟩
    replace h := zl_sub en5 h
    replace h := zqc_some h
    obtain ⟨⟨hfr5, hca5, hcb5⟩, h⟩ := h
    refine zc_new (k := 17) (T := TX17) (N := 7) (fs := [.int 0, .int 0, .int 0, .int 0, .int 0, .int 0, .null]) tyX17 tyX17_ok rfl inX17 zq_2110 zq_2111 zq_18 (zFx_k F hA) (zRC_of F hr) (by decide +kernel) (Nat.le_trans (Nat.le_of_ble_eq_true rfl) hca5) (Nat.le_trans (Nat.le_of_ble_eq_true rfl) hcb5) dX19_box_60 (fun q H hq => ?_)
    have hr := zRC_rep hq
    refine lv_dup F.1 F.2.1 dX19_box_63 rfl ?_
    refine zK_callN (cs := []) (As := []) (rest := [.ref q, .int (3 : Int32), .ref (B4 148 n1)]) hAO zn_2112 rfl zq_2113 zq_2114 zq_18 hdX17_init (okX17_init l D cy q ) (zFx_k F hA) hq hl.1 rfl (Nat.le_of_ble_eq_true rfl) dX19_box_64 ⟨Nat.le_of_ble_eq_true rfl, Nat.le_of_ble_eq_true rfl⟩ ⟨Nat.le_trans (Nat.le_of_ble_eq_true rfl) hca5, Nat.le_trans (Nat.le_of_ble_eq_true rfl) hcb5⟩ (fun H locs cs1 hp hq => ?_)
    obtain ⟨w1, rfl⟩ := hp
    obtain ⟨B5, hB5, eo5, hst, hD5, h9, hr⟩ := zmkX17 hst h9 n5  hfr5 hq
    clear hq
    generalize eI5 : I4 ++ znmX17 n5 = I5 at hst hD5 h9 hr
    have F0 := F
    have F := zFx_nx F hst hD5
    have hi5 : ∀ k o, (k, o) ∈ I4 → (k, o) ∈ I5 := fun k o h => eI5 ▸ List.mem_append_left _ h
    have hn5 : (17, n5) ∈ I5 := eI5 ▸ List.mem_append_right _ (List.mem_of_getElem? (l := znmX17 n5) (i := 0) rfl)
    have hx := zExt_nx hx hB5 hi5
    obtain ⟨z16, ez16⟩ : ∃ y, y = zmg (znmX17 n5) (zmwX17 n5 ) z15 := ⟨_, rfl⟩
    rw [← ez16] at hr
    replace h := zl_sub ez16 h
    clear ez16
    replace h := zl_sub eI5.symm h
    have ha5_0 : (12, n1) ∈ I5 := hi5 _ _ ha4_0
    have ha5_1 : (19, x0) ∈ I5 := hi5 _ _ ha4_1
    have ha5_2 : (148, n1) ∈ I5 := hi5 _ _ (zal_a F0 ha4_0 (j := 10) rfl)
    replace hl : lv_has ls 4 [(3, .int (3 : Int32)), (2, .ref (B5 12 n1)), (0, .ref (B5 19 x0)), (1, .int (0 : Int32))] := by
            rw [hB5 12 n1 ha4_0, hB5 19 x0 ha4_1]; exact hl
    rw [← hB5 148 n1 (zal_a F0 ha4_0 (j := 10) rfl)]
    subst eo5
    refine zr_aast (k := 148) (v := (some n5)) (T := TX17) (N := 7) (by decide) rfl (by decide) rfl rfl F ha5_2 hr dX19_box_67 (by rw [zlen_d (by decide)]; exact (by unfold vp_in; decide)) (zal_s hn5) (fun H locs z18 ez18 hr => ?_)
    replace h := zl_sub ez18 h
    clear ez18
    refine lv_iinc (v := (4 : Int32)) (lv' := [(3, .int (4 : Int32)), (2, .ref (B5 12 n1)), (0, .ref (B5 19 x0)), (1, .int (0 : Int32))]) F.1 F.2.1 dX19_box_68 hl (k := 0) rfl (by decide) (by decide) rfl (fun ls hl => ?_)
    refine lv_goto (tgt := 50) F.1 F.2.1 dX19_box_71 (by decide) ?_
    refine lv_iload_n F.1 F.2.1 dX19_box_50 rfl (lv_at hl 0 rfl) ?_
    refine lv_iconst (v := (4 : Int32)) F.1 F.2.1 dX19_box_51 (by decide) ?_
    refine lv_icmp_ge (tgt := 74) F.1 F.2.1 dX19_box_52 (by decide) (fun _ => ?_) (fun hc => absurd (by decide) hc)
    refine lv_iconst (v := (0 : Int32)) F.1 F.2.1 dX19_box_74 (by decide) ?_
    refine lv_istore_n (lv' := [(3, .int (0 : Int32)), (2, .ref (B5 12 n1)), (0, .ref (B5 19 x0)), (1, .int (0 : Int32))]) F.1 F.2.1 dX19_box_75 rfl hl (by decide) rfl (fun ls hl => ?_)
    refine lv_iload_n F.1 F.2.1 dX19_box_76 rfl (lv_at hl 0 rfl) ?_
    refine lv_bipush (v := (16 : Int32)) F.1 F.2.1 dX19_box_77 (by decide) ?_
    refine lv_icmp_ge (tgt := 112) F.1 F.2.1 dX19_box_79 (by decide) (fun hc => absurd hc (by decide)) (fun _ => ?_)
    refine lv_aload_n F.1 F.2.1 dX19_box_82 rfl (lv_at hl 1 rfl) ?_
    refine gf19_448 F ha5_0 hr dX19_box_83 ?_
    refine lv_iload_n F.1 F.2.1 dX19_box_86 rfl (lv_at hl 0 rfl) ?_
    refine lv_iconst (v := (-1 : Int32)) F.1 F.2.1 dX19_box_87 (by decide) ?_
    refine zr_iast (k := 150) (by decide) rfl (by decide) F (zal_a F ha5_0 (j := 14) rfl) hr dX19_box_88 (by unfold vp_in; decide) (fun H locs z20 ez20 hr => ?_)
    replace h := zl_sub ez20 h
    clear ez20
    refine lv_iload_n F.1 F.2.1 dX19_box_89 rfl (lv_at hl 3 rfl) ?_
    refine lv_if_eq (tgt := 106) F.1 F.2.1 dX19_box_90 (by decide) (fun _ => ?_) (fun hc => absurd (by decide) hc)
    refine lv_iinc (v := (1 : Int32)) (lv' := [(3, .int (1 : Int32)), (2, .ref (B5 12 n1)), (0, .ref (B5 19 x0)), (1, .int (0 : Int32))]) F.1 F.2.1 dX19_box_106 hl (k := 0) rfl (by decide) (by decide) rfl (fun ls hl => ?_)
    refine lv_goto (tgt := 76) F.1 F.2.1 dX19_box_109 (by decide) ?_
    refine lv_iload_n F.1 F.2.1 dX19_box_76 rfl (lv_at hl 0 rfl) ?_
    refine lv_bipush (v := (16 : Int32)) F.1 F.2.1 dX19_box_77 (by decide) ?_
    refine lv_icmp_ge (tgt := 112) F.1 F.2.1 dX19_box_79 (by decide) (fun hc => absurd hc (by decide)) (fun _ => ?_)
    refine lv_aload_n F.1 F.2.1 dX19_box_82 rfl (lv_at hl 1 rfl) ?_
    refine gf19_448 F ha5_0 hr dX19_box_83 ?_
    refine lv_iload_n F.1 F.2.1 dX19_box_86 rfl (lv_at hl 0 rfl) ?_
    refine lv_iconst (v := (-1 : Int32)) F.1 F.2.1 dX19_box_87 (by decide) ?_
    refine zr_iast (k := 150) (by decide) rfl (by decide) F (zal_a F ha5_0 (j := 14) rfl) hr dX19_box_88 (by unfold vp_in; decide) (fun H locs z22 ez22 hr => ?_)
    replace h := zl_sub ez22 h
    clear ez22
    refine lv_iload_n F.1 F.2.1 dX19_box_89 rfl (lv_at hl 3 rfl) ?_
    refine lv_if_eq (tgt := 106) F.1 F.2.1 dX19_box_90 (by decide) (fun _ => ?_) (fun hc => absurd (by decide) hc)
    refine lv_iinc (v := (2 : Int32)) (lv' := [(3, .int (2 : Int32)), (2, .ref (B5 12 n1)), (0, .ref (B5 19 x0)), (1, .int (0 : Int32))]) F.1 F.2.1 dX19_box_106 hl (k := 0) rfl (by decide) (by decide) rfl (fun ls hl => ?_)
    refine lv_goto (tgt := 76) F.1 F.2.1 dX19_box_109 (by decide) ?_
    refine lv_iload_n F.1 F.2.1 dX19_box_76 rfl (lv_at hl 0 rfl) ?_
    refine lv_bipush (v := (16 : Int32)) F.1 F.2.1 dX19_box_77 (by decide) ?_
    refine lv_icmp_ge (tgt := 112) F.1 F.2.1 dX19_box_79 (by decide) (fun hc => absurd hc (by decide)) (fun _ => ?_)
    refine lv_aload_n F.1 F.2.1 dX19_box_82 rfl (lv_at hl 1 rfl) ?_
    refine gf19_448 F ha5_0 hr dX19_box_83 ?_
    refine lv_iload_n F.1 F.2.1 dX19_box_86 rfl (lv_at hl 0 rfl) ?_
    refine lv_iconst (v := (-1 : Int32)) F.1 F.2.1 dX19_box_87 (by decide) ?_
    refine zr_iast (k := 150) (by decide) rfl (by decide) F (zal_a F ha5_0 (j := 14) rfl) hr dX19_box_88 (by unfold vp_in; decide) (fun H locs z24 ez24 hr => ?_)
    replace h := zl_sub ez24 h
    clear ez24
    refine lv_iload_n F.1 F.2.1 dX19_box_89 rfl (lv_at hl 3 rfl) ?_
    refine lv_if_eq (tgt := 106) F.1 F.2.1 dX19_box_90 (by decide) (fun _ => ?_) (fun hc => absurd (by decide) hc)
    refine lv_iinc (v := (3 : Int32)) (lv' := [(3, .int (3 : Int32)), (2, .ref (B5 12 n1)), (0, .ref (B5 19 x0)), (1, .int (0 : Int32))]) F.1 F.2.1 dX19_box_106 hl (k := 0) rfl (by decide) (by decide) rfl (fun ls hl => ?_)
    refine lv_goto (tgt := 76) F.1 F.2.1 dX19_box_109 (by decide) ?_
    refine lv_iload_n F.1 F.2.1 dX19_box_76 rfl (lv_at hl 0 rfl) ?_
    refine lv_bipush (v := (16 : Int32)) F.1 F.2.1 dX19_box_77 (by decide) ?_
    refine lv_icmp_ge (tgt := 112) F.1 F.2.1 dX19_box_79 (by decide) (fun hc => absurd hc (by decide)) (fun _ => ?_)
    refine lv_aload_n F.1 F.2.1 dX19_box_82 rfl (lv_at hl 1 rfl) ?_
    refine gf19_448 F ha5_0 hr dX19_box_83 ?_
    refine lv_iload_n F.1 F.2.1 dX19_box_86 rfl (lv_at hl 0 rfl) ?_
    refine lv_iconst (v := (-1 : Int32)) F.1 F.2.1 dX19_box_87 (by decide) ?_
    refine zr_iast (k := 150) (by decide) rfl (by decide) F (zal_a F ha5_0 (j := 14) rfl) hr dX19_box_88 (by unfold vp_in; decide) (fun H locs z26 ez26 hr => ?_)
    replace h := zl_sub ez26 h
    clear ez26
    refine lv_iload_n F.1 F.2.1 dX19_box_89 rfl (lv_at hl 3 rfl) ?_
    refine lv_if_eq (tgt := 106) F.1 F.2.1 dX19_box_90 (by decide) (fun _ => ?_) (fun hc => absurd (by decide) hc)
    refine lv_iinc (v := (4 : Int32)) (lv' := [(3, .int (4 : Int32)), (2, .ref (B5 12 n1)), (0, .ref (B5 19 x0)), (1, .int (0 : Int32))]) F.1 F.2.1 dX19_box_106 hl (k := 0) rfl (by decide) (by decide) rfl (fun ls hl => ?_)
    refine lv_goto (tgt := 76) F.1 F.2.1 dX19_box_109 (by decide) ?_
    refine lv_iload_n F.1 F.2.1 dX19_box_76 rfl (lv_at hl 0 rfl) ?_
    refine lv_bipush (v := (16 : Int32)) F.1 F.2.1 dX19_box_77 (by decide) ?_
    refine lv_icmp_ge (tgt := 112) F.1 F.2.1 dX19_box_79 (by decide) (fun hc => absurd hc (by decide)) (fun _ => ?_)
    refine lv_aload_n F.1 F.2.1 dX19_box_82 rfl (lv_at hl 1 rfl) ?_
    refine gf19_448 F ha5_0 hr dX19_box_83 ?_
    refine lv_iload_n F.1 F.2.1 dX19_box_86 rfl (lv_at hl 0 rfl) ?_
    refine lv_iconst (v := (-1 : Int32)) F.1 F.2.1 dX19_box_87 (by decide) ?_
    refine zr_iast (k := 150) (by decide) rfl (by decide) F (zal_a F ha5_0 (j := 14) rfl) hr dX19_box_88 (by unfold vp_in; decide) (fun H locs z28 ez28 hr => ?_)
    replace h := zl_sub ez28 h
    clear ez28
    refine lv_iload_n F.1 F.2.1 dX19_box_89 rfl (lv_at hl 3 rfl) ?_
    refine lv_if_eq (tgt := 106) F.1 F.2.1 dX19_box_90 (by decide) (fun _ => ?_) (fun hc => absurd (by decide) hc)
    refine lv_iinc (v := (5 : Int32)) (lv' := [(3, .int (5 : Int32)), (2, .ref (B5 12 n1)), (0, .ref (B5 19 x0)), (1, .int (0 : Int32))]) F.1 F.2.1 dX19_box_106 hl (k := 0) rfl (by decide) (by decide) rfl (fun ls hl => ?_)
    refine lv_goto (tgt := 76) F.1 F.2.1 dX19_box_109 (by decide) ?_
    refine lv_iload_n F.1 F.2.1 dX19_box_76 rfl (lv_at hl 0 rfl) ?_
    refine lv_bipush (v := (16 : Int32)) F.1 F.2.1 dX19_box_77 (by decide) ?_
    refine lv_icmp_ge (tgt := 112) F.1 F.2.1 dX19_box_79 (by decide) (fun hc => absurd hc (by decide)) (fun _ => ?_)
    refine lv_aload_n F.1 F.2.1 dX19_box_82 rfl (lv_at hl 1 rfl) ?_
    refine gf19_448 F ha5_0 hr dX19_box_83 ?_
    refine lv_iload_n F.1 F.2.1 dX19_box_86 rfl (lv_at hl 0 rfl) ?_
    refine lv_iconst (v := (-1 : Int32)) F.1 F.2.1 dX19_box_87 (by decide) ?_
    refine zr_iast (k := 150) (by decide) rfl (by decide) F (zal_a F ha5_0 (j := 14) rfl) hr dX19_box_88 (by unfold vp_in; decide) (fun H locs z30 ez30 hr => ?_)
    replace h := zl_sub ez30 h
    clear ez30
    refine lv_iload_n F.1 F.2.1 dX19_box_89 rfl (lv_at hl 3 rfl) ?_
    refine lv_if_eq (tgt := 106) F.1 F.2.1 dX19_box_90 (by decide) (fun _ => ?_) (fun hc => absurd (by decide) hc)
    refine lv_iinc (v := (6 : Int32)) (lv' := [(3, .int (6 : Int32)), (2, .ref (B5 12 n1)), (0, .ref (B5 19 x0)), (1, .int (0 : Int32))]) F.1 F.2.1 dX19_box_106 hl (k := 0) rfl (by decide) (by decide) rfl (fun ls hl => ?_)
    refine lv_goto (tgt := 76) F.1 F.2.1 dX19_box_109 (by decide) ?_
    refine lv_iload_n F.1 F.2.1 dX19_box_76 rfl (lv_at hl 0 rfl) ?_
    refine lv_bipush (v := (16 : Int32)) F.1 F.2.1 dX19_box_77 (by decide) ?_
    refine lv_icmp_ge (tgt := 112) F.1 F.2.1 dX19_box_79 (by decide) (fun hc => absurd hc (by decide)) (fun _ => ?_)
    refine lv_aload_n F.1 F.2.1 dX19_box_82 rfl (lv_at hl 1 rfl) ?_
    refine gf19_448 F ha5_0 hr dX19_box_83 ?_
    refine lv_iload_n F.1 F.2.1 dX19_box_86 rfl (lv_at hl 0 rfl) ?_
    refine lv_iconst (v := (-1 : Int32)) F.1 F.2.1 dX19_box_87 (by decide) ?_
    refine zr_iast (k := 150) (by decide) rfl (by decide) F (zal_a F ha5_0 (j := 14) rfl) hr dX19_box_88 (by unfold vp_in; decide) (fun H locs z32 ez32 hr => ?_)
    replace h := zl_sub ez32 h
    clear ez32
    refine lv_iload_n F.1 F.2.1 dX19_box_89 rfl (lv_at hl 3 rfl) ?_
    refine lv_if_eq (tgt := 106) F.1 F.2.1 dX19_box_90 (by decide) (fun _ => ?_) (fun hc => absurd (by decide) hc)
    refine lv_iinc (v := (7 : Int32)) (lv' := [(3, .int (7 : Int32)), (2, .ref (B5 12 n1)), (0, .ref (B5 19 x0)), (1, .int (0 : Int32))]) F.1 F.2.1 dX19_box_106 hl (k := 0) rfl (by decide) (by decide) rfl (fun ls hl => ?_)
    refine lv_goto (tgt := 76) F.1 F.2.1 dX19_box_109 (by decide) ?_
    refine lv_iload_n F.1 F.2.1 dX19_box_76 rfl (lv_at hl 0 rfl) ?_
    refine lv_bipush (v := (16 : Int32)) F.1 F.2.1 dX19_box_77 (by decide) ?_
    refine lv_icmp_ge (tgt := 112) F.1 F.2.1 dX19_box_79 (by decide) (fun hc => absurd hc (by decide)) (fun _ => ?_)
    refine lv_aload_n F.1 F.2.1 dX19_box_82 rfl (lv_at hl 1 rfl) ?_
    refine gf19_448 F ha5_0 hr dX19_box_83 ?_
    refine lv_iload_n F.1 F.2.1 dX19_box_86 rfl (lv_at hl 0 rfl) ?_
    refine lv_iconst (v := (-1 : Int32)) F.1 F.2.1 dX19_box_87 (by decide) ?_
    refine zr_iast (k := 150) (by decide) rfl (by decide) F (zal_a F ha5_0 (j := 14) rfl) hr dX19_box_88 (by unfold vp_in; decide) (fun H locs z34 ez34 hr => ?_)
    replace h := zl_sub ez34 h
    clear ez34
    refine lv_iload_n F.1 F.2.1 dX19_box_89 rfl (lv_at hl 3 rfl) ?_
    refine lv_if_eq (tgt := 106) F.1 F.2.1 dX19_box_90 (by decide) (fun _ => ?_) (fun hc => absurd (by decide) hc)
    refine lv_iinc (v := (8 : Int32)) (lv' := [(3, .int (8 : Int32)), (2, .ref (B5 12 n1)), (0, .ref (B5 19 x0)), (1, .int (0 : Int32))]) F.1 F.2.1 dX19_box_106 hl (k := 0) rfl (by decide) (by decide) rfl (fun ls hl => ?_)
    refine lv_goto (tgt := 76) F.1 F.2.1 dX19_box_109 (by decide) ?_
    refine lv_iload_n F.1 F.2.1 dX19_box_76 rfl (lv_at hl 0 rfl) ?_
    refine lv_bipush (v := (16 : Int32)) F.1 F.2.1 dX19_box_77 (by decide) ?_
    refine lv_icmp_ge (tgt := 112) F.1 F.2.1 dX19_box_79 (by decide) (fun hc => absurd hc (by decide)) (fun _ => ?_)
    refine lv_aload_n F.1 F.2.1 dX19_box_82 rfl (lv_at hl 1 rfl) ?_
    refine gf19_448 F ha5_0 hr dX19_box_83 ?_
    refine lv_iload_n F.1 F.2.1 dX19_box_86 rfl (lv_at hl 0 rfl) ?_
    refine lv_iconst (v := (-1 : Int32)) F.1 F.2.1 dX19_box_87 (by decide) ?_
    refine zr_iast (k := 150) (by decide) rfl (by decide) F (zal_a F ha5_0 (j := 14) rfl) hr dX19_box_88 (by unfold vp_in; decide) (fun H locs z36 ez36 hr => ?_)
    replace h := zl_sub ez36 h
    clear ez36
    refine lv_iload_n F.1 F.2.1 dX19_box_89 rfl (lv_at hl 3 rfl) ?_
    refine lv_if_eq (tgt := 106) F.1 F.2.1 dX19_box_90 (by decide) (fun _ => ?_) (fun hc => absurd (by decide) hc)
    refine lv_iinc (v := (9 : Int32)) (lv' := [(3, .int (9 : Int32)), (2, .ref (B5 12 n1)), (0, .ref (B5 19 x0)), (1, .int (0 : Int32))]) F.1 F.2.1 dX19_box_106 hl (k := 0) rfl (by decide) (by decide) rfl (fun ls hl => ?_)
    refine lv_goto (tgt := 76) F.1 F.2.1 dX19_box_109 (by decide) ?_
    refine lv_iload_n F.1 F.2.1 dX19_box_76 rfl (lv_at hl 0 rfl) ?_
    refine lv_bipush (v := (16 : Int32)) F.1 F.2.1 dX19_box_77 (by decide) ?_
    refine lv_icmp_ge (tgt := 112) F.1 F.2.1 dX19_box_79 (by decide) (fun hc => absurd hc (by decide)) (fun _ => ?_)
    refine lv_aload_n F.1 F.2.1 dX19_box_82 rfl (lv_at hl 1 rfl) ?_
    refine gf19_448 F ha5_0 hr dX19_box_83 ?_
    refine lv_iload_n F.1 F.2.1 dX19_box_86 rfl (lv_at hl 0 rfl) ?_
    refine lv_iconst (v := (-1 : Int32)) F.1 F.2.1 dX19_box_87 (by decide) ?_
    refine zr_iast (k := 150) (by decide) rfl (by decide) F (zal_a F ha5_0 (j := 14) rfl) hr dX19_box_88 (by unfold vp_in; decide) (fun H locs z38 ez38 hr => ?_)
    replace h := zl_sub ez38 h
    clear ez38
    refine lv_iload_n F.1 F.2.1 dX19_box_89 rfl (lv_at hl 3 rfl) ?_
    refine lv_if_eq (tgt := 106) F.1 F.2.1 dX19_box_90 (by decide) (fun _ => ?_) (fun hc => absurd (by decide) hc)
    refine lv_iinc (v := (10 : Int32)) (lv' := [(3, .int (10 : Int32)), (2, .ref (B5 12 n1)), (0, .ref (B5 19 x0)), (1, .int (0 : Int32))]) F.1 F.2.1 dX19_box_106 hl (k := 0) rfl (by decide) (by decide) rfl (fun ls hl => ?_)
    refine lv_goto (tgt := 76) F.1 F.2.1 dX19_box_109 (by decide) ?_
    refine lv_iload_n F.1 F.2.1 dX19_box_76 rfl (lv_at hl 0 rfl) ?_
    refine lv_bipush (v := (16 : Int32)) F.1 F.2.1 dX19_box_77 (by decide) ?_
    refine lv_icmp_ge (tgt := 112) F.1 F.2.1 dX19_box_79 (by decide) (fun hc => absurd hc (by decide)) (fun _ => ?_)
    refine lv_aload_n F.1 F.2.1 dX19_box_82 rfl (lv_at hl 1 rfl) ?_
    refine gf19_448 F ha5_0 hr dX19_box_83 ?_
    refine lv_iload_n F.1 F.2.1 dX19_box_86 rfl (lv_at hl 0 rfl) ?_
    refine lv_iconst (v := (-1 : Int32)) F.1 F.2.1 dX19_box_87 (by decide) ?_
    refine zr_iast (k := 150) (by decide) rfl (by decide) F (zal_a F ha5_0 (j := 14) rfl) hr dX19_box_88 (by unfold vp_in; decide) (fun H locs z40 ez40 hr => ?_)
    replace h := zl_sub ez40 h
    clear ez40
    refine lv_iload_n F.1 F.2.1 dX19_box_89 rfl (lv_at hl 3 rfl) ?_
    refine lv_if_eq (tgt := 106) F.1 F.2.1 dX19_box_90 (by decide) (fun _ => ?_) (fun hc => absurd (by decide) hc)
    refine lv_iinc (v := (11 : Int32)) (lv' := [(3, .int (11 : Int32)), (2, .ref (B5 12 n1)), (0, .ref (B5 19 x0)), (1, .int (0 : Int32))]) F.1 F.2.1 dX19_box_106 hl (k := 0) rfl (by decide) (by decide) rfl (fun ls hl => ?_)
    refine lv_goto (tgt := 76) F.1 F.2.1 dX19_box_109 (by decide) ?_
    refine lv_iload_n F.1 F.2.1 dX19_box_76 rfl (lv_at hl 0 rfl) ?_
    refine lv_bipush (v := (16 : Int32)) F.1 F.2.1 dX19_box_77 (by decide) ?_
    refine lv_icmp_ge (tgt := 112) F.1 F.2.1 dX19_box_79 (by decide) (fun hc => absurd hc (by decide)) (fun _ => ?_)
    refine lv_aload_n F.1 F.2.1 dX19_box_82 rfl (lv_at hl 1 rfl) ?_
    refine gf19_448 F ha5_0 hr dX19_box_83 ?_
    refine lv_iload_n F.1 F.2.1 dX19_box_86 rfl (lv_at hl 0 rfl) ?_
    refine lv_iconst (v := (-1 : Int32)) F.1 F.2.1 dX19_box_87 (by decide) ?_
    refine zr_iast (k := 150) (by decide) rfl (by decide) F (zal_a F ha5_0 (j := 14) rfl) hr dX19_box_88 (by unfold vp_in; decide) (fun H locs z42 ez42 hr => ?_)
    replace h := zl_sub ez42 h
    clear ez42
    refine lv_iload_n F.1 F.2.1 dX19_box_89 rfl (lv_at hl 3 rfl) ?_
    refine lv_if_eq (tgt := 106) F.1 F.2.1 dX19_box_90 (by decide) (fun _ => ?_) (fun hc => absurd (by decide) hc)
    refine lv_iinc (v := (12 : Int32)) (lv' := [(3, .int (12 : Int32)), (2, .ref (B5 12 n1)), (0, .ref (B5 19 x0)), (1, .int (0 : Int32))]) F.1 F.2.1 dX19_box_106 hl (k := 0) rfl (by decide) (by decide) rfl (fun ls hl => ?_)
    refine lv_goto (tgt := 76) F.1 F.2.1 dX19_box_109 (by decide) ?_
    refine lv_iload_n F.1 F.2.1 dX19_box_76 rfl (lv_at hl 0 rfl) ?_
    refine lv_bipush (v := (16 : Int32)) F.1 F.2.1 dX19_box_77 (by decide) ?_
    refine lv_icmp_ge (tgt := 112) F.1 F.2.1 dX19_box_79 (by decide) (fun hc => absurd hc (by decide)) (fun _ => ?_)
    refine lv_aload_n F.1 F.2.1 dX19_box_82 rfl (lv_at hl 1 rfl) ?_
    refine gf19_448 F ha5_0 hr dX19_box_83 ?_
    refine lv_iload_n F.1 F.2.1 dX19_box_86 rfl (lv_at hl 0 rfl) ?_
    refine lv_iconst (v := (-1 : Int32)) F.1 F.2.1 dX19_box_87 (by decide) ?_
    refine zr_iast (k := 150) (by decide) rfl (by decide) F (zal_a F ha5_0 (j := 14) rfl) hr dX19_box_88 (by unfold vp_in; decide) (fun H locs z44 ez44 hr => ?_)
    replace h := zl_sub ez44 h
    clear ez44
    refine lv_iload_n F.1 F.2.1 dX19_box_89 rfl (lv_at hl 3 rfl) ?_
    refine lv_if_eq (tgt := 106) F.1 F.2.1 dX19_box_90 (by decide) (fun _ => ?_) (fun hc => absurd (by decide) hc)
    refine lv_iinc (v := (13 : Int32)) (lv' := [(3, .int (13 : Int32)), (2, .ref (B5 12 n1)), (0, .ref (B5 19 x0)), (1, .int (0 : Int32))]) F.1 F.2.1 dX19_box_106 hl (k := 0) rfl (by decide) (by decide) rfl (fun ls hl => ?_)
    refine lv_goto (tgt := 76) F.1 F.2.1 dX19_box_109 (by decide) ?_
    refine lv_iload_n F.1 F.2.1 dX19_box_76 rfl (lv_at hl 0 rfl) ?_
    refine lv_bipush (v := (16 : Int32)) F.1 F.2.1 dX19_box_77 (by decide) ?_
    refine lv_icmp_ge (tgt := 112) F.1 F.2.1 dX19_box_79 (by decide) (fun hc => absurd hc (by decide)) (fun _ => ?_)
    refine lv_aload_n F.1 F.2.1 dX19_box_82 rfl (lv_at hl 1 rfl) ?_
    refine gf19_448 F ha5_0 hr dX19_box_83 ?_
    refine lv_iload_n F.1 F.2.1 dX19_box_86 rfl (lv_at hl 0 rfl) ?_
    refine lv_iconst (v := (-1 : Int32)) F.1 F.2.1 dX19_box_87 (by decide) ?_
    refine zr_iast (k := 150) (by decide) rfl (by decide) F (zal_a F ha5_0 (j := 14) rfl) hr dX19_box_88 (by unfold vp_in; decide) (fun H locs z46 ez46 hr => ?_)
    replace h := zl_sub ez46 h
    clear ez46
    refine lv_iload_n F.1 F.2.1 dX19_box_89 rfl (lv_at hl 3 rfl) ?_
    refine lv_if_eq (tgt := 106) F.1 F.2.1 dX19_box_90 (by decide) (fun _ => ?_) (fun hc => absurd (by decide) hc)
    refine lv_iinc (v := (14 : Int32)) (lv' := [(3, .int (14 : Int32)), (2, .ref (B5 12 n1)), (0, .ref (B5 19 x0)), (1, .int (0 : Int32))]) F.1 F.2.1 dX19_box_106 hl (k := 0) rfl (by decide) (by decide) rfl (fun ls hl => ?_)
    refine lv_goto (tgt := 76) F.1 F.2.1 dX19_box_109 (by decide) ?_
    refine lv_iload_n F.1 F.2.1 dX19_box_76 rfl (lv_at hl 0 rfl) ?_
    refine lv_bipush (v := (16 : Int32)) F.1 F.2.1 dX19_box_77 (by decide) ?_
    refine lv_icmp_ge (tgt := 112) F.1 F.2.1 dX19_box_79 (by decide) (fun hc => absurd hc (by decide)) (fun _ => ?_)
    refine lv_aload_n F.1 F.2.1 dX19_box_82 rfl (lv_at hl 1 rfl) ?_
    refine gf19_448 F ha5_0 hr dX19_box_83 ?_
    refine lv_iload_n F.1 F.2.1 dX19_box_86 rfl (lv_at hl 0 rfl) ?_
    refine lv_iconst (v := (-1 : Int32)) F.1 F.2.1 dX19_box_87 (by decide) ?_
    refine zr_iast (k := 150) (by decide) rfl (by decide) F (zal_a F ha5_0 (j := 14) rfl) hr dX19_box_88 (by unfold vp_in; decide) (fun H locs z48 ez48 hr => ?_)
    replace h := zl_sub ez48 h
    clear ez48
    refine lv_iload_n F.1 F.2.1 dX19_box_89 rfl (lv_at hl 3 rfl) ?_
    refine lv_if_eq (tgt := 106) F.1 F.2.1 dX19_box_90 (by decide) (fun _ => ?_) (fun hc => absurd (by decide) hc)
    refine lv_iinc (v := (15 : Int32)) (lv' := [(3, .int (15 : Int32)), (2, .ref (B5 12 n1)), (0, .ref (B5 19 x0)), (1, .int (0 : Int32))]) F.1 F.2.1 dX19_box_106 hl (k := 0) rfl (by decide) (by decide) rfl (fun ls hl => ?_)
    refine lv_goto (tgt := 76) F.1 F.2.1 dX19_box_109 (by decide) ?_
    refine lv_iload_n F.1 F.2.1 dX19_box_76 rfl (lv_at hl 0 rfl) ?_
    refine lv_bipush (v := (16 : Int32)) F.1 F.2.1 dX19_box_77 (by decide) ?_
    refine lv_icmp_ge (tgt := 112) F.1 F.2.1 dX19_box_79 (by decide) (fun hc => absurd hc (by decide)) (fun _ => ?_)
    refine lv_aload_n F.1 F.2.1 dX19_box_82 rfl (lv_at hl 1 rfl) ?_
    refine gf19_448 F ha5_0 hr dX19_box_83 ?_
    refine lv_iload_n F.1 F.2.1 dX19_box_86 rfl (lv_at hl 0 rfl) ?_
    refine lv_iconst (v := (-1 : Int32)) F.1 F.2.1 dX19_box_87 (by decide) ?_
    refine zr_iast (k := 150) (by decide) rfl (by decide) F (zal_a F ha5_0 (j := 14) rfl) hr dX19_box_88 (by unfold vp_in; decide) (fun H locs z50 ez50 hr => ?_)
    replace h := zl_sub ez50 h
    clear ez50
    refine lv_iload_n F.1 F.2.1 dX19_box_89 rfl (lv_at hl 3 rfl) ?_
    refine lv_if_eq (tgt := 106) F.1 F.2.1 dX19_box_90 (by decide) (fun _ => ?_) (fun hc => absurd (by decide) hc)
    refine lv_iinc (v := (16 : Int32)) (lv' := [(3, .int (16 : Int32)), (2, .ref (B5 12 n1)), (0, .ref (B5 19 x0)), (1, .int (0 : Int32))]) F.1 F.2.1 dX19_box_106 hl (k := 0) rfl (by decide) (by decide) rfl (fun ls hl => ?_)
    refine lv_goto (tgt := 76) F.1 F.2.1 dX19_box_109 (by decide) ?_
    refine lv_iload_n F.1 F.2.1 dX19_box_76 rfl (lv_at hl 0 rfl) ?_
    refine lv_bipush (v := (16 : Int32)) F.1 F.2.1 dX19_box_77 (by decide) ?_
    refine lv_icmp_ge (tgt := 112) F.1 F.2.1 dX19_box_79 (by decide) (fun _ => ?_) (fun hc => absurd (by decide) hc)
    refine lv_iconst (v := (0 : Int32)) F.1 F.2.1 dX19_box_112 (by decide) ?_
    refine lv_istore_n (lv' := [(3, .int (0 : Int32)), (2, .ref (B5 12 n1)), (0, .ref (B5 19 x0)), (1, .int (0 : Int32))]) F.1 F.2.1 dX19_box_113 rfl hl (by decide) rfl (fun ls hl => ?_)
    refine lv_iload_n F.1 F.2.1 dX19_box_114 rfl (lv_at hl 0 rfl) ?_
    refine lv_bipush (v := (6 : Int32)) F.1 F.2.1 dX19_box_115 (by decide) ?_
    refine lv_icmp_ge (tgt := 159) F.1 F.2.1 dX19_box_117 (by decide) (fun hc => absurd hc (by decide)) (fun _ => ?_)
    refine lv_iload_n F.1 F.2.1 dX19_box_120 rfl (lv_at hl 3 rfl) ?_
    refine lv_if_ne (tgt := 159) F.1 F.2.1 dX19_box_121 (by decide) (fun hc => absurd hc (by decide)) (fun _ => ?_)
    refine lv_aload_n F.1 F.2.1 dX19_box_124 rfl (lv_at hl 1 rfl) ?_
    refine gf19_340 F ha5_0 hr dX19_box_125 ?_
    refine lv_iload_n F.1 F.2.1 dX19_box_128 rfl (lv_at hl 0 rfl) ?_
    obtain ⟨n6, en6⟩ : ∃ y : Nat, y = 6 * n1 + 0 := ⟨_, rfl⟩
    replace h := zl_sub en6 h
    replace h := zqc_some h
    obtain ⟨⟨hfr6, hca6, hcb6⟩, h⟩ := h
    refine zc_new (k := 13) (T := TX13) (N := 10) (fs := [.int 0, .int 0, .int 0, .int 0, .null, .int 0, .int 0, .int 0, .int 0, .int 0]) tyX13 tyX13_ok rfl inX13 zq_2167 zq_2168 zq_20 (zFx_k F hA) (zRC_of F hr) (by decide +kernel) (Nat.le_trans (Nat.le_of_ble_eq_true rfl) hca6) (Nat.le_trans (Nat.le_of_ble_eq_true rfl) hcb6) dX19_box_129 (fun q H hq => ?_)
    have hr := zRC_rep hq
    refine lv_dup F.1 F.2.1 dX19_box_132 rfl ?_
    refine zK_callN (cs := []) (As := []) (rest := [.ref q, .int (0 : Int32), .ref (B5 158 n1)]) hAO zn_2169 rfl zq_2170 zq_2171 zq_20 hdX13_init (okX13_init l D cy q ) (zFx_k F hA) hq hl.1 rfl (Nat.le_of_ble_eq_true rfl) dX19_box_133 ⟨Nat.le_of_ble_eq_true rfl, Nat.le_of_ble_eq_true rfl⟩ ⟨Nat.le_trans (Nat.le_of_ble_eq_true rfl) hca6, Nat.le_trans (Nat.le_of_ble_eq_true rfl) hcb6⟩ (fun H locs cs1 hp hq => ?_)
    subst hp
    obtain ⟨B6, hB6, eo6, hst, hD6, h9, hr⟩ := zmkX13 hst h9 n6  hfr6 hq
    clear hq
    generalize eI6 : I5 ++ znmX13 n6 = I6 at hst hD6 h9 hr
    have F0 := F
    have F := zFx_nx F hst hD6
    have hi6 : ∀ k o, (k, o) ∈ I5 → (k, o) ∈ I6 := fun k o h => eI6 ▸ List.mem_append_left _ h
    have hn6 : (13, n6) ∈ I6 := eI6 ▸ List.mem_append_right _ (List.mem_of_getElem? (l := znmX13 n6) (i := 0) rfl)
    have hx := zExt_nx hx hB6 hi6
    obtain ⟨z51, ez51⟩ : ∃ y, y = zmg (znmX13 n6) (zmwX13 n6 ) z50 := ⟨_, rfl⟩
    rw [← ez51] at hr
    replace h := zl_sub ez51 h
    clear ez51
    replace h := zl_sub eI6.symm h
    have ha6_0 : (12, n1) ∈ I6 := hi6 _ _ ha5_0
    have ha6_1 : (19, x0) ∈ I6 := hi6 _ _ ha5_1
    have ha6_2 : (158, n1) ∈ I6 := hi6 _ _ (zal_a F0 ha5_0 (j := 28) rfl)
    replace hl : lv_has ls 4 [(3, .int (0 : Int32)), (2, .ref (B6 12 n1)), (0, .ref (B6 19 x0)), (1, .int (0 : Int32))] := by
            rw [hB6 12 n1 ha5_0, hB6 19 x0 ha5_1]; exact hl
    rw [← hB6 158 n1 (zal_a F0 ha5_0 (j := 28) rfl)]
    subst eo6
    refine zr_aast (k := 158) (v := (some n6)) (T := TX13) (N := 10) (by decide) rfl (by decide) rfl rfl F ha6_2 hr dX19_box_136 (by rw [zlen_d (by decide)]; exact (by unfold vp_in; decide)) (zal_s hn6) (fun H locs z53 ez53 hr => ?_)
    replace h := zl_sub ez53 h
    clear ez53
    refine lv_aload_n F.1 F.2.1 dX19_box_137 rfl (lv_at hl 1 rfl) ?_
    refine gf19_340 F ha6_0 hr dX19_box_138 ?_
    refine lv_iload_n F.1 F.2.1 dX19_box_141 rfl (lv_at hl 0 rfl) ?_
    refine zr_aaldv (k := 158) (by decide) rfl rfl (zlen_d (by decide)) F (zal_a F ha6_0 (j := 28) rfl) hr dX19_box_142 (by unfold vp_in; decide) (fun y55 ey55 => ?_)
    replace h := zl_sub ey55 h
    have hy55 := zal_q hr (zal_a F ha6_0 (j := 28) rfl) rfl ey55
    clear ey55
    obtain ⟨n7, en7⟩ : ∃ y : Nat, y = 6 * n1 + 0 := ⟨_, rfl⟩
    replace h := zl_sub en7 h
    replace h := zqc_some h
    obtain ⟨⟨hfr7, hca7, hcb7⟩, h⟩ := h
    refine zc_new (k := 14) (T := TX14) (N := 47) (fs := [.int 0, .int 0, .int 0, .int 0, .int 0, .int 0, .int 0, .int 0, .int 0, .int 0, .null, .int 0, .int 0, .int 0, .int 0, .int 0, .int 0, .int 0, .int 0, .null, .null, .int 0, .int 0, .int 0, .int 0, .int 0, .int 0, .int 0, .int 0, .int 0, .int 0, .int 0, .int 0, .int 0, .int 0, .int 0, .int 0, .int 0, .int 0, .int 0, .int 0, .int 0, .int 0, .int 0, .int 0, .int 0, .int 0]) tyX14 tyX14_ok rfl inX14 zq_2206 zq_2207 zq_21 (zFx_k F hA) (zRC_of F hr) (by decide +kernel) (Nat.le_trans (Nat.le_of_ble_eq_true rfl) hca7) (Nat.le_trans (Nat.le_of_ble_eq_true rfl) hcb7) dX19_box_143 (fun q H hq => ?_)
    have hr := zRC_rep hq
    refine lv_dup F.1 F.2.1 dX19_box_146 rfl ?_
    refine zK_callN (cs := []) (As := []) (rest := [.ref q, va_rf (Option.map (B6 13) y55)]) hAO zn_2208 rfl zq_2209 zq_2210 zq_21 hdX14_init (okX14_init l D cy q ) (zFx_k F hA) hq hl.1 rfl (by simp only [List.map, zrf_cat]; exact Nat.le_of_ble_eq_true rfl) dX19_box_147 ⟨Nat.le_of_ble_eq_true rfl, Nat.le_of_ble_eq_true rfl⟩ ⟨Nat.le_trans (Nat.le_of_ble_eq_true rfl) hca7, Nat.le_trans (Nat.le_of_ble_eq_true rfl) hcb7⟩ (fun H locs cs1 hp hq => ?_)
    obtain ⟨w1, w2, w3, rfl⟩ := hp
    obtain ⟨B7, hB7, eo7, hst, hD7, h9, hr⟩ := zmkX14 hst h9 n7  hfr7 hq
    clear hq
    generalize eI7 : I6 ++ znmX14 n7 = I7 at hst hD7 h9 hr
    have F0 := F
    have F := zFx_nx F hst hD7
    have hi7 : ∀ k o, (k, o) ∈ I6 → (k, o) ∈ I7 := fun k o h => eI7 ▸ List.mem_append_left _ h
    have hn7 : (14, n7) ∈ I7 := eI7 ▸ List.mem_append_right _ (List.mem_of_getElem? (l := znmX14 n7) (i := 0) rfl)
    have hx := zExt_nx hx hB7 hi7
    obtain ⟨z56, ez56⟩ : ∃ y, y = zmg (znmX14 n7) (zmwX14 n7 ) z53 := ⟨_, rfl⟩
    rw [← ez56] at hr
    replace h := zl_sub ez56 h
    clear ez56
    replace h := zl_sub eI7.symm h
    have ha7_0 : (12, n1) ∈ I7 := hi7 _ _ ha6_0
    have ha7_1 : (19, x0) ∈ I7 := hi7 _ _ ha6_1
    have ha7_2 : ∀ t, y55 = some t → (13, t) ∈ I7 := fun t e => hi7 _ _ (hy55 t e)
    replace hl : lv_has ls 4 [(3, .int (0 : Int32)), (2, .ref (B7 12 n1)), (0, .ref (B7 19 x0)), (1, .int (0 : Int32))] := by
            rw [hB7 12 n1 ha6_0, hB7 19 x0 ha6_1]; exact hl
    rw [← zmapB hB7 hy55]
    subst eo7
    replace h := zd_some h
    obtain ⟨a57, rfl, h⟩ := h
    refine pf19_344 F (ha7_2 _ rfl) hr dX19_box_150 (some n7) (zal_s hn7) (fun H locs z58 ez58 hr => ?_)
    replace h := zl_sub ez58 h
    clear ez58
    refine lv_iinc (v := (1 : Int32)) (lv' := [(3, .int (1 : Int32)), (2, .ref (B7 12 n1)), (0, .ref (B7 19 x0)), (1, .int (0 : Int32))]) F.1 F.2.1 dX19_box_153 hl (k := 0) rfl (by decide) (by decide) rfl (fun ls hl => ?_)
    refine lv_goto (tgt := 114) F.1 F.2.1 dX19_box_156 (by decide) ?_
    refine lv_iload_n F.1 F.2.1 dX19_box_114 rfl (lv_at hl 0 rfl) ?_
    refine lv_bipush (v := (6 : Int32)) F.1 F.2.1 dX19_box_115 (by decide) ?_
    refine lv_icmp_ge (tgt := 159) F.1 F.2.1 dX19_box_117 (by decide) (fun hc => absurd hc (by decide)) (fun _ => ?_)
    refine lv_iload_n F.1 F.2.1 dX19_box_120 rfl (lv_at hl 3 rfl) ?_
    refine lv_if_ne (tgt := 159) F.1 F.2.1 dX19_box_121 (by decide) (fun hc => absurd hc (by decide)) (fun _ => ?_)
    refine lv_aload_n F.1 F.2.1 dX19_box_124 rfl (lv_at hl 1 rfl) ?_
    refine gf19_340 F ha7_0 hr dX19_box_125 ?_
    refine lv_iload_n F.1 F.2.1 dX19_box_128 rfl (lv_at hl 0 rfl) ?_
    obtain ⟨n8, en8⟩ : ∃ y : Nat, y = 6 * n1 + 1 := ⟨_, rfl⟩
    replace h := zl_sub en8 h
    replace h := zqc_some h
    obtain ⟨⟨hfr8, hca8, hcb8⟩, h⟩ := h
    refine zc_new (k := 13) (T := TX13) (N := 10) (fs := [.int 0, .int 0, .int 0, .int 0, .null, .int 0, .int 0, .int 0, .int 0, .int 0]) tyX13 tyX13_ok rfl inX13 zq_2167 zq_2168 zq_20 (zFx_k F hA) (zRC_of F hr) (by decide +kernel) (Nat.le_trans (Nat.le_of_ble_eq_true rfl) hca8) (Nat.le_trans (Nat.le_of_ble_eq_true rfl) hcb8) dX19_box_129 (fun q H hq => ?_)
    have hr := zRC_rep hq
    refine lv_dup F.1 F.2.1 dX19_box_132 rfl ?_
    refine zK_callN (cs := []) (As := []) (rest := [.ref q, .int (1 : Int32), .ref (B7 158 n1)]) hAO zn_2169 rfl zq_2170 zq_2171 zq_20 hdX13_init (okX13_init l D cy q ) (zFx_k F hA) hq hl.1 rfl (Nat.le_of_ble_eq_true rfl) dX19_box_133 ⟨Nat.le_of_ble_eq_true rfl, Nat.le_of_ble_eq_true rfl⟩ ⟨Nat.le_trans (Nat.le_of_ble_eq_true rfl) hca8, Nat.le_trans (Nat.le_of_ble_eq_true rfl) hcb8⟩ (fun H locs cs1 hp hq => ?_)
    subst hp
    obtain ⟨B8, hB8, eo8, hst, hD8, h9, hr⟩ := zmkX13 hst h9 n8  hfr8 hq
    clear hq
    generalize eI8 : I7 ++ znmX13 n8 = I8 at hst hD8 h9 hr
    have F0 := F
    have F := zFx_nx F hst hD8
    have hi8 : ∀ k o, (k, o) ∈ I7 → (k, o) ∈ I8 := fun k o h => eI8 ▸ List.mem_append_left _ h
    have hn8 : (13, n8) ∈ I8 := eI8 ▸ List.mem_append_right _ (List.mem_of_getElem? (l := znmX13 n8) (i := 0) rfl)
    have hx := zExt_nx hx hB8 hi8
    obtain ⟨z59, ez59⟩ : ∃ y, y = zmg (znmX13 n8) (zmwX13 n8 ) z58 := ⟨_, rfl⟩
    rw [← ez59] at hr
    replace h := zl_sub ez59 h
    clear ez59
    replace h := zl_sub eI8.symm h
    have ha8_0 : (12, n1) ∈ I8 := hi8 _ _ ha7_0
    have ha8_1 : (19, x0) ∈ I8 := hi8 _ _ ha7_1
    have ha8_2 : (158, n1) ∈ I8 := hi8 _ _ (zal_a F0 ha7_0 (j := 28) rfl)
    replace hl : lv_has ls 4 [(3, .int (1 : Int32)), (2, .ref (B8 12 n1)), (0, .ref (B8 19 x0)), (1, .int (0 : Int32))] := by
            rw [hB8 12 n1 ha7_0, hB8 19 x0 ha7_1]; exact hl
    rw [← hB8 158 n1 (zal_a F0 ha7_0 (j := 28) rfl)]
    subst eo8
    refine zr_aast (k := 158) (v := (some n8)) (T := TX13) (N := 10) (by decide) rfl (by decide) rfl rfl F ha8_2 hr dX19_box_136 (by rw [zlen_d (by decide)]; exact (by unfold vp_in; decide)) (zal_s hn8) (fun H locs z61 ez61 hr => ?_)
    replace h := zl_sub ez61 h
    clear ez61
    refine lv_aload_n F.1 F.2.1 dX19_box_137 rfl (lv_at hl 1 rfl) ?_
    refine gf19_340 F ha8_0 hr dX19_box_138 ?_
    refine lv_iload_n F.1 F.2.1 dX19_box_141 rfl (lv_at hl 0 rfl) ?_
    refine zr_aaldv (k := 158) (by decide) rfl rfl (zlen_d (by decide)) F (zal_a F ha8_0 (j := 28) rfl) hr dX19_box_142 (by unfold vp_in; decide) (fun y63 ey63 => ?_)
    replace h := zl_sub ey63 h
    have hy63 := zal_q hr (zal_a F ha8_0 (j := 28) rfl) rfl ey63
    clear ey63
    obtain ⟨n9, en9⟩ : ∃ y : Nat, y = 6 * n1 + 1 := ⟨_, rfl⟩
    replace h := zl_sub en9 h
    replace h := zqc_some h
    obtain ⟨⟨hfr9, hca9, hcb9⟩, h⟩ := h
    refine zc_new (k := 14) (T := TX14) (N := 47) (fs := [.int 0, .int 0, .int 0, .int 0, .int 0, .int 0, .int 0, .int 0, .int 0, .int 0, .null, .int 0, .int 0, .int 0, .int 0, .int 0, .int 0, .int 0, .int 0, .null, .null, .int 0, .int 0, .int 0, .int 0, .int 0, .int 0, .int 0, .int 0, .int 0, .int 0, .int 0, .int 0, .int 0, .int 0, .int 0, .int 0, .int 0, .int 0, .int 0, .int 0, .int 0, .int 0, .int 0, .int 0, .int 0, .int 0]) tyX14 tyX14_ok rfl inX14 zq_2206 zq_2207 zq_21 (zFx_k F hA) (zRC_of F hr) (by decide +kernel) (Nat.le_trans (Nat.le_of_ble_eq_true rfl) hca9) (Nat.le_trans (Nat.le_of_ble_eq_true rfl) hcb9) dX19_box_143 (fun q H hq => ?_)
    have hr := zRC_rep hq
    refine lv_dup F.1 F.2.1 dX19_box_146 rfl ?_
    refine zK_callN (cs := []) (As := []) (rest := [.ref q, va_rf (Option.map (B8 13) y63)]) hAO zn_2208 rfl zq_2209 zq_2210 zq_21 hdX14_init (okX14_init l D cy q ) (zFx_k F hA) hq hl.1 rfl (by simp only [List.map, zrf_cat]; exact Nat.le_of_ble_eq_true rfl) dX19_box_147 ⟨Nat.le_of_ble_eq_true rfl, Nat.le_of_ble_eq_true rfl⟩ ⟨Nat.le_trans (Nat.le_of_ble_eq_true rfl) hca9, Nat.le_trans (Nat.le_of_ble_eq_true rfl) hcb9⟩ (fun H locs cs1 hp hq => ?_)
    obtain ⟨w1, w2, w3, rfl⟩ := hp
    obtain ⟨B9, hB9, eo9, hst, hD9, h9, hr⟩ := zmkX14 hst h9 n9  hfr9 hq
    clear hq
    generalize eI9 : I8 ++ znmX14 n9 = I9 at hst hD9 h9 hr
    have F0 := F
    have F := zFx_nx F hst hD9
    have hi9 : ∀ k o, (k, o) ∈ I8 → (k, o) ∈ I9 := fun k o h => eI9 ▸ List.mem_append_left _ h
    have hn9 : (14, n9) ∈ I9 := eI9 ▸ List.mem_append_right _ (List.mem_of_getElem? (l := znmX14 n9) (i := 0) rfl)
    have hx := zExt_nx hx hB9 hi9
    obtain ⟨z64, ez64⟩ : ∃ y, y = zmg (znmX14 n9) (zmwX14 n9 ) z61 := ⟨_, rfl⟩
    rw [← ez64] at hr
    replace h := zl_sub ez64 h
    clear ez64
    replace h := zl_sub eI9.symm h
    have ha9_0 : (12, n1) ∈ I9 := hi9 _ _ ha8_0
    have ha9_1 : (19, x0) ∈ I9 := hi9 _ _ ha8_1
    have ha9_2 : ∀ t, y63 = some t → (13, t) ∈ I9 := fun t e => hi9 _ _ (hy63 t e)
    replace hl : lv_has ls 4 [(3, .int (1 : Int32)), (2, .ref (B9 12 n1)), (0, .ref (B9 19 x0)), (1, .int (0 : Int32))] := by
            rw [hB9 12 n1 ha8_0, hB9 19 x0 ha8_1]; exact hl
    rw [← zmapB hB9 hy63]
    subst eo9
    replace h := zd_some h
    obtain ⟨a65, rfl, h⟩ := h
    refine pf19_344 F (ha9_2 _ rfl) hr dX19_box_150 (some n9) (zal_s hn9) (fun H locs z66 ez66 hr => ?_)
    replace h := zl_sub ez66 h
    clear ez66
    refine lv_iinc (v := (2 : Int32)) (lv' := [(3, .int (2 : Int32)), (2, .ref (B9 12 n1)), (0, .ref (B9 19 x0)), (1, .int (0 : Int32))]) F.1 F.2.1 dX19_box_153 hl (k := 0) rfl (by decide) (by decide) rfl (fun ls hl => ?_)
    refine lv_goto (tgt := 114) F.1 F.2.1 dX19_box_156 (by decide) ?_
    refine lv_iload_n F.1 F.2.1 dX19_box_114 rfl (lv_at hl 0 rfl) ?_
    refine lv_bipush (v := (6 : Int32)) F.1 F.2.1 dX19_box_115 (by decide) ?_
    refine lv_icmp_ge (tgt := 159) F.1 F.2.1 dX19_box_117 (by decide) (fun hc => absurd hc (by decide)) (fun _ => ?_)
    refine lv_iload_n F.1 F.2.1 dX19_box_120 rfl (lv_at hl 3 rfl) ?_
    refine lv_if_ne (tgt := 159) F.1 F.2.1 dX19_box_121 (by decide) (fun hc => absurd hc (by decide)) (fun _ => ?_)
    refine lv_aload_n F.1 F.2.1 dX19_box_124 rfl (lv_at hl 1 rfl) ?_
    refine gf19_340 F ha9_0 hr dX19_box_125 ?_
    refine lv_iload_n F.1 F.2.1 dX19_box_128 rfl (lv_at hl 0 rfl) ?_
    obtain ⟨n10, en10⟩ : ∃ y : Nat, y = 6 * n1 + 2 := ⟨_, rfl⟩
    replace h := zl_sub en10 h
    replace h := zqc_some h
    obtain ⟨⟨hfr10, hca10, hcb10⟩, h⟩ := h
    refine zc_new (k := 13) (T := TX13) (N := 10) (fs := [.int 0, .int 0, .int 0, .int 0, .null, .int 0, .int 0, .int 0, .int 0, .int 0]) tyX13 tyX13_ok rfl inX13 zq_2167 zq_2168 zq_20 (zFx_k F hA) (zRC_of F hr) (by decide +kernel) (Nat.le_trans (Nat.le_of_ble_eq_true rfl) hca10) (Nat.le_trans (Nat.le_of_ble_eq_true rfl) hcb10) dX19_box_129 (fun q H hq => ?_)
    have hr := zRC_rep hq
    refine lv_dup F.1 F.2.1 dX19_box_132 rfl ?_
    refine zK_callN (cs := []) (As := []) (rest := [.ref q, .int (2 : Int32), .ref (B9 158 n1)]) hAO zn_2169 rfl zq_2170 zq_2171 zq_20 hdX13_init (okX13_init l D cy q ) (zFx_k F hA) hq hl.1 rfl (Nat.le_of_ble_eq_true rfl) dX19_box_133 ⟨Nat.le_of_ble_eq_true rfl, Nat.le_of_ble_eq_true rfl⟩ ⟨Nat.le_trans (Nat.le_of_ble_eq_true rfl) hca10, Nat.le_trans (Nat.le_of_ble_eq_true rfl) hcb10⟩ (fun H locs cs1 hp hq => ?_)
    subst hp
    obtain ⟨B10, hB10, eo10, hst, hD10, h9, hr⟩ := zmkX13 hst h9 n10  hfr10 hq
    clear hq
    generalize eI10 : I9 ++ znmX13 n10 = I10 at hst hD10 h9 hr
    have F0 := F
    have F := zFx_nx F hst hD10
    have hi10 : ∀ k o, (k, o) ∈ I9 → (k, o) ∈ I10 := fun k o h => eI10 ▸ List.mem_append_left _ h
    have hn10 : (13, n10) ∈ I10 := eI10 ▸ List.mem_append_right _ (List.mem_of_getElem? (l := znmX13 n10) (i := 0) rfl)
    have hx := zExt_nx hx hB10 hi10
    obtain ⟨z67, ez67⟩ : ∃ y, y = zmg (znmX13 n10) (zmwX13 n10 ) z66 := ⟨_, rfl⟩
    rw [← ez67] at hr
    replace h := zl_sub ez67 h
    clear ez67
    replace h := zl_sub eI10.symm h
    have ha10_0 : (12, n1) ∈ I10 := hi10 _ _ ha9_0
    have ha10_1 : (19, x0) ∈ I10 := hi10 _ _ ha9_1
    have ha10_2 : (158, n1) ∈ I10 := hi10 _ _ (zal_a F0 ha9_0 (j := 28) rfl)
    replace hl : lv_has ls 4 [(3, .int (2 : Int32)), (2, .ref (B10 12 n1)), (0, .ref (B10 19 x0)), (1, .int (0 : Int32))] := by
            rw [hB10 12 n1 ha9_0, hB10 19 x0 ha9_1]; exact hl
    rw [← hB10 158 n1 (zal_a F0 ha9_0 (j := 28) rfl)]
    subst eo10
    refine zr_aast (k := 158) (v := (some n10)) (T := TX13) (N := 10) (by decide) rfl (by decide) rfl rfl F ha10_2 hr dX19_box_136 (by rw [zlen_d (by decide)]; exact (by unfold vp_in; decide)) (zal_s hn10) (fun H locs z69 ez69 hr => ?_)
    replace h := zl_sub ez69 h
    clear ez69
    refine lv_aload_n F.1 F.2.1 dX19_box_137 rfl (lv_at hl 1 rfl) ?_
    refine gf19_340 F ha10_0 hr dX19_box_138 ?_
    refine lv_iload_n F.1 F.2.1 dX19_box_141 rfl (lv_at hl 0 rfl) ?_
    refine zr_aaldv (k := 158) (by decide) rfl rfl (zlen_d (by decide)) F (zal_a F ha10_0 (j := 28) rfl) hr dX19_box_142 (by unfold vp_in; decide) (fun y71 ey71 => ?_)
    replace h := zl_sub ey71 h
    have hy71 := zal_q hr (zal_a F ha10_0 (j := 28) rfl) rfl ey71
    clear ey71
    obtain ⟨n11, en11⟩ : ∃ y : Nat, y = 6 * n1 + 2 := ⟨_, rfl⟩
    replace h := zl_sub en11 h
    replace h := zqc_some h
    obtain ⟨⟨hfr11, hca11, hcb11⟩, h⟩ := h
    refine zc_new (k := 14) (T := TX14) (N := 47) (fs := [.int 0, .int 0, .int 0, .int 0, .int 0, .int 0, .int 0, .int 0, .int 0, .int 0, .null, .int 0, .int 0, .int 0, .int 0, .int 0, .int 0, .int 0, .int 0, .null, .null, .int 0, .int 0, .int 0, .int 0, .int 0, .int 0, .int 0, .int 0, .int 0, .int 0, .int 0, .int 0, .int 0, .int 0, .int 0, .int 0, .int 0, .int 0, .int 0, .int 0, .int 0, .int 0, .int 0, .int 0, .int 0, .int 0]) tyX14 tyX14_ok rfl inX14 zq_2206 zq_2207 zq_21 (zFx_k F hA) (zRC_of F hr) (by decide +kernel) (Nat.le_trans (Nat.le_of_ble_eq_true rfl) hca11) (Nat.le_trans (Nat.le_of_ble_eq_true rfl) hcb11) dX19_box_143 (fun q H hq => ?_)
    have hr := zRC_rep hq
    refine lv_dup F.1 F.2.1 dX19_box_146 rfl ?_
    refine zK_callN (cs := []) (As := []) (rest := [.ref q, va_rf (Option.map (B10 13) y71)]) hAO zn_2208 rfl zq_2209 zq_2210 zq_21 hdX14_init (okX14_init l D cy q ) (zFx_k F hA) hq hl.1 rfl (by simp only [List.map, zrf_cat]; exact Nat.le_of_ble_eq_true rfl) dX19_box_147 ⟨Nat.le_of_ble_eq_true rfl, Nat.le_of_ble_eq_true rfl⟩ ⟨Nat.le_trans (Nat.le_of_ble_eq_true rfl) hca11, Nat.le_trans (Nat.le_of_ble_eq_true rfl) hcb11⟩ (fun H locs cs1 hp hq => ?_)
    obtain ⟨w1, w2, w3, rfl⟩ := hp
    obtain ⟨B11, hB11, eo11, hst, hD11, h9, hr⟩ := zmkX14 hst h9 n11  hfr11 hq
    clear hq
    generalize eI11 : I10 ++ znmX14 n11 = I11 at hst hD11 h9 hr
    have F0 := F
    have F := zFx_nx F hst hD11
    have hi11 : ∀ k o, (k, o) ∈ I10 → (k, o) ∈ I11 := fun k o h => eI11 ▸ List.mem_append_left _ h
    have hn11 : (14, n11) ∈ I11 := eI11 ▸ List.mem_append_right _ (List.mem_of_getElem? (l := znmX14 n11) (i := 0) rfl)
    have hx := zExt_nx hx hB11 hi11
    obtain ⟨z72, ez72⟩ : ∃ y, y = zmg (znmX14 n11) (zmwX14 n11 ) z69 := ⟨_, rfl⟩
    rw [← ez72] at hr
    replace h := zl_sub ez72 h
    clear ez72
    replace h := zl_sub eI11.symm h
    have ha11_0 : (12, n1) ∈ I11 := hi11 _ _ ha10_0
    have ha11_1 : (19, x0) ∈ I11 := hi11 _ _ ha10_1
    have ha11_2 : ∀ t, y71 = some t → (13, t) ∈ I11 := fun t e => hi11 _ _ (hy71 t e)
    replace hl : lv_has ls 4 [(3, .int (2 : Int32)), (2, .ref (B11 12 n1)), (0, .ref (B11 19 x0)), (1, .int (0 : Int32))] := by
            rw [hB11 12 n1 ha10_0, hB11 19 x0 ha10_1]; exact hl
    rw [← zmapB hB11 hy71]
    subst eo11
    replace h := zd_some h
    obtain ⟨a73, rfl, h⟩ := h
    refine pf19_344 F (ha11_2 _ rfl) hr dX19_box_150 (some n11) (zal_s hn11) (fun H locs z74 ez74 hr => ?_)
    replace h := zl_sub ez74 h
    clear ez74
    refine lv_iinc (v := (3 : Int32)) (lv' := [(3, .int (3 : Int32)), (2, .ref (B11 12 n1)), (0, .ref (B11 19 x0)), (1, .int (0 : Int32))]) F.1 F.2.1 dX19_box_153 hl (k := 0) rfl (by decide) (by decide) rfl (fun ls hl => ?_)
    refine lv_goto (tgt := 114) F.1 F.2.1 dX19_box_156 (by decide) ?_
    refine lv_iload_n F.1 F.2.1 dX19_box_114 rfl (lv_at hl 0 rfl) ?_
    refine lv_bipush (v := (6 : Int32)) F.1 F.2.1 dX19_box_115 (by decide) ?_
    refine lv_icmp_ge (tgt := 159) F.1 F.2.1 dX19_box_117 (by decide) (fun hc => absurd hc (by decide)) (fun _ => ?_)
    refine lv_iload_n F.1 F.2.1 dX19_box_120 rfl (lv_at hl 3 rfl) ?_
    refine lv_if_ne (tgt := 159) F.1 F.2.1 dX19_box_121 (by decide) (fun hc => absurd hc (by decide)) (fun _ => ?_)
    refine lv_aload_n F.1 F.2.1 dX19_box_124 rfl (lv_at hl 1 rfl) ?_
    refine gf19_340 F ha11_0 hr dX19_box_125 ?_
    refine lv_iload_n F.1 F.2.1 dX19_box_128 rfl (lv_at hl 0 rfl) ?_
    obtain ⟨n12, en12⟩ : ∃ y : Nat, y = 6 * n1 + 3 := ⟨_, rfl⟩
    replace h := zl_sub en12 h
    replace h := zqc_some h
    obtain ⟨⟨hfr12, hca12, hcb12⟩, h⟩ := h
    refine zc_new (k := 13) (T := TX13) (N := 10) (fs := [.int 0, .int 0, .int 0, .int 0, .null, .int 0, .int 0, .int 0, .int 0, .int 0]) tyX13 tyX13_ok rfl inX13 zq_2167 zq_2168 zq_20 (zFx_k F hA) (zRC_of F hr) (by decide +kernel) (Nat.le_trans (Nat.le_of_ble_eq_true rfl) hca12) (Nat.le_trans (Nat.le_of_ble_eq_true rfl) hcb12) dX19_box_129 (fun q H hq => ?_)
    have hr := zRC_rep hq
    refine lv_dup F.1 F.2.1 dX19_box_132 rfl ?_
    refine zK_callN (cs := []) (As := []) (rest := [.ref q, .int (3 : Int32), .ref (B11 158 n1)]) hAO zn_2169 rfl zq_2170 zq_2171 zq_20 hdX13_init (okX13_init l D cy q ) (zFx_k F hA) hq hl.1 rfl (Nat.le_of_ble_eq_true rfl) dX19_box_133 ⟨Nat.le_of_ble_eq_true rfl, Nat.le_of_ble_eq_true rfl⟩ ⟨Nat.le_trans (Nat.le_of_ble_eq_true rfl) hca12, Nat.le_trans (Nat.le_of_ble_eq_true rfl) hcb12⟩ (fun H locs cs1 hp hq => ?_)
    subst hp
    obtain ⟨B12, hB12, eo12, hst, hD12, h9, hr⟩ := zmkX13 hst h9 n12  hfr12 hq
    clear hq
    generalize eI12 : I11 ++ znmX13 n12 = I12 at hst hD12 h9 hr
    have F0 := F
    have F := zFx_nx F hst hD12
    have hi12 : ∀ k o, (k, o) ∈ I11 → (k, o) ∈ I12 := fun k o h => eI12 ▸ List.mem_append_left _ h
    have hn12 : (13, n12) ∈ I12 := eI12 ▸ List.mem_append_right _ (List.mem_of_getElem? (l := znmX13 n12) (i := 0) rfl)
    have hx := zExt_nx hx hB12 hi12
    obtain ⟨z75, ez75⟩ : ∃ y, y = zmg (znmX13 n12) (zmwX13 n12 ) z74 := ⟨_, rfl⟩
    rw [← ez75] at hr
    replace h := zl_sub ez75 h
    clear ez75
    replace h := zl_sub eI12.symm h
    have ha12_0 : (12, n1) ∈ I12 := hi12 _ _ ha11_0
    have ha12_1 : (19, x0) ∈ I12 := hi12 _ _ ha11_1
    have ha12_2 : (158, n1) ∈ I12 := hi12 _ _ (zal_a F0 ha11_0 (j := 28) rfl)
    replace hl : lv_has ls 4 [(3, .int (3 : Int32)), (2, .ref (B12 12 n1)), (0, .ref (B12 19 x0)), (1, .int (0 : Int32))] := by
            rw [hB12 12 n1 ha11_0, hB12 19 x0 ha11_1]; exact hl
    rw [← hB12 158 n1 (zal_a F0 ha11_0 (j := 28) rfl)]
    subst eo12
    refine zr_aast (k := 158) (v := (some n12)) (T := TX13) (N := 10) (by decide) rfl (by decide) rfl rfl F ha12_2 hr dX19_box_136 (by rw [zlen_d (by decide)]; exact (by unfold vp_in; decide)) (zal_s hn12) (fun H locs z77 ez77 hr => ?_)
    replace h := zl_sub ez77 h
    clear ez77
    refine lv_aload_n F.1 F.2.1 dX19_box_137 rfl (lv_at hl 1 rfl) ?_
    refine gf19_340 F ha12_0 hr dX19_box_138 ?_
    refine lv_iload_n F.1 F.2.1 dX19_box_141 rfl (lv_at hl 0 rfl) ?_
    refine zr_aaldv (k := 158) (by decide) rfl rfl (zlen_d (by decide)) F (zal_a F ha12_0 (j := 28) rfl) hr dX19_box_142 (by unfold vp_in; decide) (fun y79 ey79 => ?_)
    replace h := zl_sub ey79 h
    have hy79 := zal_q hr (zal_a F ha12_0 (j := 28) rfl) rfl ey79
    clear ey79
    obtain ⟨n13, en13⟩ : ∃ y : Nat, y = 6 * n1 + 3 := ⟨_, rfl⟩
    replace h := zl_sub en13 h
    replace h := zqc_some h
    obtain ⟨⟨hfr13, hca13, hcb13⟩, h⟩ := h
    refine zc_new (k := 14) (T := TX14) (N := 47) (fs := [.int 0, .int 0, .int 0, .int 0, .int 0, .int 0, .int 0, .int 0, .int 0, .int 0, .null, .int 0, .int 0, .int 0, .int 0, .int 0, .int 0, .int 0, .int 0, .null, .null, .int 0, .int 0, .int 0, .int 0, .int 0, .int 0, .int 0, .int 0, .int 0, .int 0, .int 0, .int 0, .int 0, .int 0, .int 0, .int 0, .int 0, .int 0, .int 0, .int 0, .int 0, .int 0, .int 0, .int 0, .int 0, .int 0]) tyX14 tyX14_ok rfl inX14 zq_2206 zq_2207 zq_21 (zFx_k F hA) (zRC_of F hr) (by decide +kernel) (Nat.le_trans (Nat.le_of_ble_eq_true rfl) hca13) (Nat.le_trans (Nat.le_of_ble_eq_true rfl) hcb13) dX19_box_143 (fun q H hq => ?_)
    have hr := zRC_rep hq
    refine lv_dup F.1 F.2.1 dX19_box_146 rfl ?_
    refine zK_callN (cs := []) (As := []) (rest := [.ref q, va_rf (Option.map (B12 13) y79)]) hAO zn_2208 rfl zq_2209 zq_2210 zq_21 hdX14_init (okX14_init l D cy q ) (zFx_k F hA) hq hl.1 rfl (by simp only [List.map, zrf_cat]; exact Nat.le_of_ble_eq_true rfl) dX19_box_147 ⟨Nat.le_of_ble_eq_true rfl, Nat.le_of_ble_eq_true rfl⟩ ⟨Nat.le_trans (Nat.le_of_ble_eq_true rfl) hca13, Nat.le_trans (Nat.le_of_ble_eq_true rfl) hcb13⟩ (fun H locs cs1 hp hq => ?_)
    obtain ⟨w1, w2, w3, rfl⟩ := hp
    obtain ⟨B13, hB13, eo13, hst, hD13, h9, hr⟩ := zmkX14 hst h9 n13  hfr13 hq
    clear hq
    generalize eI13 : I12 ++ znmX14 n13 = I13 at hst hD13 h9 hr
    have F0 := F
    have F := zFx_nx F hst hD13
    have hi13 : ∀ k o, (k, o) ∈ I12 → (k, o) ∈ I13 := fun k o h => eI13 ▸ List.mem_append_left _ h
    have hn13 : (14, n13) ∈ I13 := eI13 ▸ List.mem_append_right _ (List.mem_of_getElem? (l := znmX14 n13) (i := 0) rfl)
    have hx := zExt_nx hx hB13 hi13
    obtain ⟨z80, ez80⟩ : ∃ y, y = zmg (znmX14 n13) (zmwX14 n13 ) z77 := ⟨_, rfl⟩
    rw [← ez80] at hr
    replace h := zl_sub ez80 h
    clear ez80
    replace h := zl_sub eI13.symm h
    have ha13_0 : (12, n1) ∈ I13 := hi13 _ _ ha12_0
    have ha13_1 : (19, x0) ∈ I13 := hi13 _ _ ha12_1
    have ha13_2 : ∀ t, y79 = some t → (13, t) ∈ I13 := fun t e => hi13 _ _ (hy79 t e)
    replace hl : lv_has ls 4 [(3, .int (3 : Int32)), (2, .ref (B13 12 n1)), (0, .ref (B13 19 x0)), (1, .int (0 : Int32))] := by
            rw [hB13 12 n1 ha12_0, hB13 19 x0 ha12_1]; exact hl
    rw [← zmapB hB13 hy79]
    subst eo13
    replace h := zd_some h
    obtain ⟨a81, rfl, h⟩ := h
    refine pf19_344 F (ha13_2 _ rfl) hr dX19_box_150 (some n13) (zal_s hn13) (fun H locs z82 ez82 hr => ?_)
    replace h := zl_sub ez82 h
    clear ez82
    refine lv_iinc (v := (4 : Int32)) (lv' := [(3, .int (4 : Int32)), (2, .ref (B13 12 n1)), (0, .ref (B13 19 x0)), (1, .int (0 : Int32))]) F.1 F.2.1 dX19_box_153 hl (k := 0) rfl (by decide) (by decide) rfl (fun ls hl => ?_)
    refine lv_goto (tgt := 114) F.1 F.2.1 dX19_box_156 (by decide) ?_
    refine lv_iload_n F.1 F.2.1 dX19_box_114 rfl (lv_at hl 0 rfl) ?_
    refine lv_bipush (v := (6 : Int32)) F.1 F.2.1 dX19_box_115 (by decide) ?_
    refine lv_icmp_ge (tgt := 159) F.1 F.2.1 dX19_box_117 (by decide) (fun hc => absurd hc (by decide)) (fun _ => ?_)
    refine lv_iload_n F.1 F.2.1 dX19_box_120 rfl (lv_at hl 3 rfl) ?_
    refine lv_if_ne (tgt := 159) F.1 F.2.1 dX19_box_121 (by decide) (fun hc => absurd hc (by decide)) (fun _ => ?_)
    refine lv_aload_n F.1 F.2.1 dX19_box_124 rfl (lv_at hl 1 rfl) ?_
    refine gf19_340 F ha13_0 hr dX19_box_125 ?_
    refine lv_iload_n F.1 F.2.1 dX19_box_128 rfl (lv_at hl 0 rfl) ?_
    obtain ⟨n14, en14⟩ : ∃ y : Nat, y = 6 * n1 + 4 := ⟨_, rfl⟩
    replace h := zl_sub en14 h
    replace h := zqc_some h
    obtain ⟨⟨hfr14, hca14, hcb14⟩, h⟩ := h
    refine zc_new (k := 13) (T := TX13) (N := 10) (fs := [.int 0, .int 0, .int 0, .int 0, .null, .int 0, .int 0, .int 0, .int 0, .int 0]) tyX13 tyX13_ok rfl inX13 zq_2167 zq_2168 zq_20 (zFx_k F hA) (zRC_of F hr) (by decide +kernel) (Nat.le_trans (Nat.le_of_ble_eq_true rfl) hca14) (Nat.le_trans (Nat.le_of_ble_eq_true rfl) hcb14) dX19_box_129 (fun q H hq => ?_)
    have hr := zRC_rep hq
    refine lv_dup F.1 F.2.1 dX19_box_132 rfl ?_
    refine zK_callN (cs := []) (As := []) (rest := [.ref q, .int (4 : Int32), .ref (B13 158 n1)]) hAO zn_2169 rfl zq_2170 zq_2171 zq_20 hdX13_init (okX13_init l D cy q ) (zFx_k F hA) hq hl.1 rfl (Nat.le_of_ble_eq_true rfl) dX19_box_133 ⟨Nat.le_of_ble_eq_true rfl, Nat.le_of_ble_eq_true rfl⟩ ⟨Nat.le_trans (Nat.le_of_ble_eq_true rfl) hca14, Nat.le_trans (Nat.le_of_ble_eq_true rfl) hcb14⟩ (fun H locs cs1 hp hq => ?_)
    subst hp
    obtain ⟨B14, hB14, eo14, hst, hD14, h9, hr⟩ := zmkX13 hst h9 n14  hfr14 hq
    clear hq
    generalize eI14 : I13 ++ znmX13 n14 = I14 at hst hD14 h9 hr
    have F0 := F
    have F := zFx_nx F hst hD14
    have hi14 : ∀ k o, (k, o) ∈ I13 → (k, o) ∈ I14 := fun k o h => eI14 ▸ List.mem_append_left _ h
    have hn14 : (13, n14) ∈ I14 := eI14 ▸ List.mem_append_right _ (List.mem_of_getElem? (l := znmX13 n14) (i := 0) rfl)
    have hx := zExt_nx hx hB14 hi14
    obtain ⟨z83, ez83⟩ : ∃ y, y = zmg (znmX13 n14) (zmwX13 n14 ) z82 := ⟨_, rfl⟩
    rw [← ez83] at hr
    replace h := zl_sub ez83 h
    clear ez83
    replace h := zl_sub eI14.symm h
    have ha14_0 : (12, n1) ∈ I14 := hi14 _ _ ha13_0
    have ha14_1 : (19, x0) ∈ I14 := hi14 _ _ ha13_1
    have ha14_2 : (158, n1) ∈ I14 := hi14 _ _ (zal_a F0 ha13_0 (j := 28) rfl)
    replace hl : lv_has ls 4 [(3, .int (4 : Int32)), (2, .ref (B14 12 n1)), (0, .ref (B14 19 x0)), (1, .int (0 : Int32))] := by
            rw [hB14 12 n1 ha13_0, hB14 19 x0 ha13_1]; exact hl
    rw [← hB14 158 n1 (zal_a F0 ha13_0 (j := 28) rfl)]
    subst eo14
    refine zr_aast (k := 158) (v := (some n14)) (T := TX13) (N := 10) (by decide) rfl (by decide) rfl rfl F ha14_2 hr dX19_box_136 (by rw [zlen_d (by decide)]; exact (by unfold vp_in; decide)) (zal_s hn14) (fun H locs z85 ez85 hr => ?_)
    replace h := zl_sub ez85 h
    clear ez85
    refine lv_aload_n F.1 F.2.1 dX19_box_137 rfl (lv_at hl 1 rfl) ?_
    refine gf19_340 F ha14_0 hr dX19_box_138 ?_
    refine lv_iload_n F.1 F.2.1 dX19_box_141 rfl (lv_at hl 0 rfl) ?_
    refine zr_aaldv (k := 158) (by decide) rfl rfl (zlen_d (by decide)) F (zal_a F ha14_0 (j := 28) rfl) hr dX19_box_142 (by unfold vp_in; decide) (fun y87 ey87 => ?_)
    replace h := zl_sub ey87 h
    have hy87 := zal_q hr (zal_a F ha14_0 (j := 28) rfl) rfl ey87
    clear ey87
    obtain ⟨n15, en15⟩ : ∃ y : Nat, y = 6 * n1 + 4 := ⟨_, rfl⟩
    replace h := zl_sub en15 h
    replace h := zqc_some h
    obtain ⟨⟨hfr15, hca15, hcb15⟩, h⟩ := h
    refine zc_new (k := 14) (T := TX14) (N := 47) (fs := [.int 0, .int 0, .int 0, .int 0, .int 0, .int 0, .int 0, .int 0, .int 0, .int 0, .null, .int 0, .int 0, .int 0, .int 0, .int 0, .int 0, .int 0, .int 0, .null, .null, .int 0, .int 0, .int 0, .int 0, .int 0, .int 0, .int 0, .int 0, .int 0, .int 0, .int 0, .int 0, .int 0, .int 0, .int 0, .int 0, .int 0, .int 0, .int 0, .int 0, .int 0, .int 0, .int 0, .int 0, .int 0, .int 0]) tyX14 tyX14_ok rfl inX14 zq_2206 zq_2207 zq_21 (zFx_k F hA) (zRC_of F hr) (by decide +kernel) (Nat.le_trans (Nat.le_of_ble_eq_true rfl) hca15) (Nat.le_trans (Nat.le_of_ble_eq_true rfl) hcb15) dX19_box_143 (fun q H hq => ?_)
    have hr := zRC_rep hq
    refine lv_dup F.1 F.2.1 dX19_box_146 rfl ?_
    refine zK_callN (cs := []) (As := []) (rest := [.ref q, va_rf (Option.map (B14 13) y87)]) hAO zn_2208 rfl zq_2209 zq_2210 zq_21 hdX14_init (okX14_init l D cy q ) (zFx_k F hA) hq hl.1 rfl (by simp only [List.map, zrf_cat]; exact Nat.le_of_ble_eq_true rfl) dX19_box_147 ⟨Nat.le_of_ble_eq_true rfl, Nat.le_of_ble_eq_true rfl⟩ ⟨Nat.le_trans (Nat.le_of_ble_eq_true rfl) hca15, Nat.le_trans (Nat.le_of_ble_eq_true rfl) hcb15⟩ (fun H locs cs1 hp hq => ?_)
    obtain ⟨w1, w2, w3, rfl⟩ := hp
    obtain ⟨B15, hB15, eo15, hst, hD15, h9, hr⟩ := zmkX14 hst h9 n15  hfr15 hq
    clear hq
    generalize eI15 : I14 ++ znmX14 n15 = I15 at hst hD15 h9 hr
    have F0 := F
    have F := zFx_nx F hst hD15
    have hi15 : ∀ k o, (k, o) ∈ I14 → (k, o) ∈ I15 := fun k o h => eI15 ▸ List.mem_append_left _ h
    have hn15 : (14, n15) ∈ I15 := eI15 ▸ List.mem_append_right _ (List.mem_of_getElem? (l := znmX14 n15) (i := 0) rfl)
    have hx := zExt_nx hx hB15 hi15
    obtain ⟨z88, ez88⟩ : ∃ y, y = zmg (znmX14 n15) (zmwX14 n15 ) z85 := ⟨_, rfl⟩
    rw [← ez88] at hr
    replace h := zl_sub ez88 h
    clear ez88
    replace h := zl_sub eI15.symm h
    have ha15_0 : (12, n1) ∈ I15 := hi15 _ _ ha14_0
    have ha15_1 : (19, x0) ∈ I15 := hi15 _ _ ha14_1
    have ha15_2 : ∀ t, y87 = some t → (13, t) ∈ I15 := fun t e => hi15 _ _ (hy87 t e)
    replace hl : lv_has ls 4 [(3, .int (4 : Int32)), (2, .ref (B15 12 n1)), (0, .ref (B15 19 x0)), (1, .int (0 : Int32))] := by
            rw [hB15 12 n1 ha14_0, hB15 19 x0 ha14_1]; exact hl
    rw [← zmapB hB15 hy87]
    subst eo15
    replace h := zd_some h
    obtain ⟨a89, rfl, h⟩ := h
    refine pf19_344 F (ha15_2 _ rfl) hr dX19_box_150 (some n15) (zal_s hn15) (fun H locs z90 ez90 hr => ?_)
    replace h := zl_sub ez90 h
    clear ez90
    refine lv_iinc (v := (5 : Int32)) (lv' := [(3, .int (5 : Int32)), (2, .ref (B15 12 n1)), (0, .ref (B15 19 x0)), (1, .int (0 : Int32))]) F.1 F.2.1 dX19_box_153 hl (k := 0) rfl (by decide) (by decide) rfl (fun ls hl => ?_)
    refine lv_goto (tgt := 114) F.1 F.2.1 dX19_box_156 (by decide) ?_
    refine lv_iload_n F.1 F.2.1 dX19_box_114 rfl (lv_at hl 0 rfl) ?_
    refine lv_bipush (v := (6 : Int32)) F.1 F.2.1 dX19_box_115 (by decide) ?_
    refine lv_icmp_ge (tgt := 159) F.1 F.2.1 dX19_box_117 (by decide) (fun hc => absurd hc (by decide)) (fun _ => ?_)
    refine lv_iload_n F.1 F.2.1 dX19_box_120 rfl (lv_at hl 3 rfl) ?_
    refine lv_if_ne (tgt := 159) F.1 F.2.1 dX19_box_121 (by decide) (fun hc => absurd hc (by decide)) (fun _ => ?_)
    refine lv_aload_n F.1 F.2.1 dX19_box_124 rfl (lv_at hl 1 rfl) ?_
    refine gf19_340 F ha15_0 hr dX19_box_125 ?_
    refine lv_iload_n F.1 F.2.1 dX19_box_128 rfl (lv_at hl 0 rfl) ?_
    obtain ⟨n16, en16⟩ : ∃ y : Nat, y = 6 * n1 + 5 := ⟨_, rfl⟩
    replace h := zl_sub en16 h
    replace h := zqc_some h
    obtain ⟨⟨hfr16, hca16, hcb16⟩, h⟩ := h
    refine zc_new (k := 13) (T := TX13) (N := 10) (fs := [.int 0, .int 0, .int 0, .int 0, .null, .int 0, .int 0, .int 0, .int 0, .int 0]) tyX13 tyX13_ok rfl inX13 zq_2167 zq_2168 zq_20 (zFx_k F hA) (zRC_of F hr) (by decide +kernel) (Nat.le_trans (Nat.le_of_ble_eq_true rfl) hca16) (Nat.le_trans (Nat.le_of_ble_eq_true rfl) hcb16) dX19_box_129 (fun q H hq => ?_)
    have hr := zRC_rep hq
    refine lv_dup F.1 F.2.1 dX19_box_132 rfl ?_
    refine zK_callN (cs := []) (As := []) (rest := [.ref q, .int (5 : Int32), .ref (B15 158 n1)]) hAO zn_2169 rfl zq_2170 zq_2171 zq_20 hdX13_init (okX13_init l D cy q ) (zFx_k F hA) hq hl.1 rfl (Nat.le_of_ble_eq_true rfl) dX19_box_133 ⟨Nat.le_of_ble_eq_true rfl, Nat.le_of_ble_eq_true rfl⟩ ⟨Nat.le_trans (Nat.le_of_ble_eq_true rfl) hca16, Nat.le_trans (Nat.le_of_ble_eq_true rfl) hcb16⟩ (fun H locs cs1 hp hq => ?_)
    subst hp
    obtain ⟨B16, hB16, eo16, hst, hD16, h9, hr⟩ := zmkX13 hst h9 n16  hfr16 hq
    clear hq
    generalize eI16 : I15 ++ znmX13 n16 = I16 at hst hD16 h9 hr
    have F0 := F
    have F := zFx_nx F hst hD16
    have hi16 : ∀ k o, (k, o) ∈ I15 → (k, o) ∈ I16 := fun k o h => eI16 ▸ List.mem_append_left _ h
    have hn16 : (13, n16) ∈ I16 := eI16 ▸ List.mem_append_right _ (List.mem_of_getElem? (l := znmX13 n16) (i := 0) rfl)
    have hx := zExt_nx hx hB16 hi16
    obtain ⟨z91, ez91⟩ : ∃ y, y = zmg (znmX13 n16) (zmwX13 n16 ) z90 := ⟨_, rfl⟩
    rw [← ez91] at hr
    replace h := zl_sub ez91 h
    clear ez91
    replace h := zl_sub eI16.symm h
    have ha16_0 : (12, n1) ∈ I16 := hi16 _ _ ha15_0
    have ha16_1 : (19, x0) ∈ I16 := hi16 _ _ ha15_1
    have ha16_2 : (158, n1) ∈ I16 := hi16 _ _ (zal_a F0 ha15_0 (j := 28) rfl)
    replace hl : lv_has ls 4 [(3, .int (5 : Int32)), (2, .ref (B16 12 n1)), (0, .ref (B16 19 x0)), (1, .int (0 : Int32))] := by
            rw [hB16 12 n1 ha15_0, hB16 19 x0 ha15_1]; exact hl
    rw [← hB16 158 n1 (zal_a F0 ha15_0 (j := 28) rfl)]
    subst eo16
    refine zr_aast (k := 158) (v := (some n16)) (T := TX13) (N := 10) (by decide) rfl (by decide) rfl rfl F ha16_2 hr dX19_box_136 (by rw [zlen_d (by decide)]; exact (by unfold vp_in; decide)) (zal_s hn16) (fun H locs z93 ez93 hr => ?_)
    replace h := zl_sub ez93 h
    clear ez93
    refine lv_aload_n F.1 F.2.1 dX19_box_137 rfl (lv_at hl 1 rfl) ?_
    refine gf19_340 F ha16_0 hr dX19_box_138 ?_
    refine lv_iload_n F.1 F.2.1 dX19_box_141 rfl (lv_at hl 0 rfl) ?_
    refine zr_aaldv (k := 158) (by decide) rfl rfl (zlen_d (by decide)) F (zal_a F ha16_0 (j := 28) rfl) hr dX19_box_142 (by unfold vp_in; decide) (fun y95 ey95 => ?_)
    replace h := zl_sub ey95 h
    have hy95 := zal_q hr (zal_a F ha16_0 (j := 28) rfl) rfl ey95
    clear ey95
    obtain ⟨n17, en17⟩ : ∃ y : Nat, y = 6 * n1 + 5 := ⟨_, rfl⟩
    replace h := zl_sub en17 h
    replace h := zqc_some h
    obtain ⟨⟨hfr17, hca17, hcb17⟩, h⟩ := h
    refine zc_new (k := 14) (T := TX14) (N := 47) (fs := [.int 0, .int 0, .int 0, .int 0, .int 0, .int 0, .int 0, .int 0, .int 0, .int 0, .null, .int 0, .int 0, .int 0, .int 0, .int 0, .int 0, .int 0, .int 0, .null, .null, .int 0, .int 0, .int 0, .int 0, .int 0, .int 0, .int 0, .int 0, .int 0, .int 0, .int 0, .int 0, .int 0, .int 0, .int 0, .int 0, .int 0, .int 0, .int 0, .int 0, .int 0, .int 0, .int 0, .int 0, .int 0, .int 0]) tyX14 tyX14_ok rfl inX14 zq_2206 zq_2207 zq_21 (zFx_k F hA) (zRC_of F hr) (by decide +kernel) (Nat.le_trans (Nat.le_of_ble_eq_true rfl) hca17) (Nat.le_trans (Nat.le_of_ble_eq_true rfl) hcb17) dX19_box_143 (fun q H hq => ?_)
    have hr := zRC_rep hq
    refine lv_dup F.1 F.2.1 dX19_box_146 rfl ?_
    refine zK_callN (cs := []) (As := []) (rest := [.ref q, va_rf (Option.map (B16 13) y95)]) hAO zn_2208 rfl zq_2209 zq_2210 zq_21 hdX14_init (okX14_init l D cy q ) (zFx_k F hA) hq hl.1 rfl (by simp only [List.map, zrf_cat]; exact Nat.le_of_ble_eq_true rfl) dX19_box_147 ⟨Nat.le_of_ble_eq_true rfl, Nat.le_of_ble_eq_true rfl⟩ ⟨Nat.le_trans (Nat.le_of_ble_eq_true rfl) hca17, Nat.le_trans (Nat.le_of_ble_eq_true rfl) hcb17⟩ (fun H locs cs1 hp hq => ?_)
    obtain ⟨w1, w2, w3, rfl⟩ := hp
    obtain ⟨B17, hB17, eo17, hst, hD17, h9, hr⟩ := zmkX14 hst h9 n17  hfr17 hq
    clear hq
    generalize eI17 : I16 ++ znmX14 n17 = I17 at hst hD17 h9 hr
    have F0 := F
    have F := zFx_nx F hst hD17
    have hi17 : ∀ k o, (k, o) ∈ I16 → (k, o) ∈ I17 := fun k o h => eI17 ▸ List.mem_append_left _ h
    have hn17 : (14, n17) ∈ I17 := eI17 ▸ List.mem_append_right _ (List.mem_of_getElem? (l := znmX14 n17) (i := 0) rfl)
    have hx := zExt_nx hx hB17 hi17
    obtain ⟨z96, ez96⟩ : ∃ y, y = zmg (znmX14 n17) (zmwX14 n17 ) z93 := ⟨_, rfl⟩
    rw [← ez96] at hr
    replace h := zl_sub ez96 h
    clear ez96
    replace h := zl_sub eI17.symm h
    have ha17_0 : (12, n1) ∈ I17 := hi17 _ _ ha16_0
    have ha17_1 : (19, x0) ∈ I17 := hi17 _ _ ha16_1
    have ha17_2 : ∀ t, y95 = some t → (13, t) ∈ I17 := fun t e => hi17 _ _ (hy95 t e)
    replace hl : lv_has ls 4 [(3, .int (5 : Int32)), (2, .ref (B17 12 n1)), (0, .ref (B17 19 x0)), (1, .int (0 : Int32))] := by
            rw [hB17 12 n1 ha16_0, hB17 19 x0 ha16_1]; exact hl
    rw [← zmapB hB17 hy95]
    subst eo17
    replace h := zd_some h
    obtain ⟨a97, rfl, h⟩ := h
    refine pf19_344 F (ha17_2 _ rfl) hr dX19_box_150 (some n17) (zal_s hn17) (fun H locs z98 ez98 hr => ?_)
    replace h := zl_sub ez98 h
    clear ez98
    refine lv_iinc (v := (6 : Int32)) (lv' := [(3, .int (6 : Int32)), (2, .ref (B17 12 n1)), (0, .ref (B17 19 x0)), (1, .int (0 : Int32))]) F.1 F.2.1 dX19_box_153 hl (k := 0) rfl (by decide) (by decide) rfl (fun ls hl => ?_)
    refine lv_goto (tgt := 114) F.1 F.2.1 dX19_box_156 (by decide) ?_
    refine lv_iload_n F.1 F.2.1 dX19_box_114 rfl (lv_at hl 0 rfl) ?_
    refine lv_bipush (v := (6 : Int32)) F.1 F.2.1 dX19_box_115 (by decide) ?_
    refine lv_icmp_ge (tgt := 159) F.1 F.2.1 dX19_box_117 (by decide) (fun _ => ?_) (fun hc => absurd (by decide) hc)
    refine lv_iconst (v := (0 : Int32)) F.1 F.2.1 dX19_box_159 (by decide) ?_
    refine lv_istore_n (lv' := [(3, .int (0 : Int32)), (2, .ref (B17 12 n1)), (0, .ref (B17 19 x0)), (1, .int (0 : Int32))]) F.1 F.2.1 dX19_box_160 rfl hl (by decide) rfl (fun ls hl => ?_)
    refine lv_iload_n F.1 F.2.1 dX19_box_161 rfl (lv_at hl 0 rfl) ?_
    refine lv_bipush (v := (24 : Int32)) F.1 F.2.1 dX19_box_162 (by decide) ?_
    refine lv_icmp_ge (tgt := 194) F.1 F.2.1 dX19_box_164 (by decide) (fun hc => absurd hc (by decide)) (fun _ => ?_)
    refine lv_aload_n F.1 F.2.1 dX19_box_167 rfl (lv_at hl 1 rfl) ?_
    refine gf19_301 F ha17_0 hr dX19_box_168 ?_
    refine lv_iload_n F.1 F.2.1 dX19_box_171 rfl (lv_at hl 0 rfl) ?_
    refine lv_iconst (v := (-1 : Int32)) F.1 F.2.1 dX19_box_172 (by decide) ?_
    refine zr_iast (k := 155) (by decide) rfl (by decide) F (zal_a F ha17_0 (j := 25) rfl) hr dX19_box_173 (by unfold vp_in; decide) (fun H locs z100 ez100 hr => ?_)
    replace h := zl_sub ez100 h
    clear ez100
    refine lv_aload_n F.1 F.2.1 dX19_box_174 rfl (lv_at hl 1 rfl) ?_
    refine gf19_307 F ha17_0 hr dX19_box_175 ?_
    refine lv_iload_n F.1 F.2.1 dX19_box_178 rfl (lv_at hl 0 rfl) ?_
    refine lv_iconst (v := (-1 : Int32)) F.1 F.2.1 dX19_box_179 (by decide) ?_
    refine zr_iast (k := 156) (by decide) rfl (by decide) F (zal_a F ha17_0 (j := 26) rfl) hr dX19_box_180 (by unfold vp_in; decide) (fun H locs z102 ez102 hr => ?_)
    replace h := zl_sub ez102 h
    clear ez102
    refine lv_aload_n F.1 F.2.1 dX19_box_181 rfl (lv_at hl 1 rfl) ?_
    refine gf19_304 F ha17_0 hr dX19_box_182 ?_
    refine lv_iload_n F.1 F.2.1 dX19_box_185 rfl (lv_at hl 0 rfl) ?_
    refine lv_iconst (v := (-1 : Int32)) F.1 F.2.1 dX19_box_186 (by decide) ?_
    refine zr_iast (k := 157) (by decide) rfl (by decide) F (zal_a F ha17_0 (j := 27) rfl) hr dX19_box_187 (by unfold vp_in; decide) (fun H locs z104 ez104 hr => ?_)
    replace h := zl_sub ez104 h
    clear ez104
    refine lv_iinc (v := (1 : Int32)) (lv' := [(3, .int (1 : Int32)), (2, .ref (B17 12 n1)), (0, .ref (B17 19 x0)), (1, .int (0 : Int32))]) F.1 F.2.1 dX19_box_188 hl (k := 0) rfl (by decide) (by decide) rfl (fun ls hl => ?_)
    refine lv_goto (tgt := 161) F.1 F.2.1 dX19_box_191 (by decide) ?_
    refine lv_iload_n F.1 F.2.1 dX19_box_161 rfl (lv_at hl 0 rfl) ?_
    refine lv_bipush (v := (24 : Int32)) F.1 F.2.1 dX19_box_162 (by decide) ?_
    refine lv_icmp_ge (tgt := 194) F.1 F.2.1 dX19_box_164 (by decide) (fun hc => absurd hc (by decide)) (fun _ => ?_)
    refine lv_aload_n F.1 F.2.1 dX19_box_167 rfl (lv_at hl 1 rfl) ?_
    refine gf19_301 F ha17_0 hr dX19_box_168 ?_
    refine lv_iload_n F.1 F.2.1 dX19_box_171 rfl (lv_at hl 0 rfl) ?_
    refine lv_iconst (v := (-1 : Int32)) F.1 F.2.1 dX19_box_172 (by decide) ?_
    refine zr_iast (k := 155) (by decide) rfl (by decide) F (zal_a F ha17_0 (j := 25) rfl) hr dX19_box_173 (by unfold vp_in; decide) (fun H locs z106 ez106 hr => ?_)
    replace h := zl_sub ez106 h
    clear ez106
    refine lv_aload_n F.1 F.2.1 dX19_box_174 rfl (lv_at hl 1 rfl) ?_
    refine gf19_307 F ha17_0 hr dX19_box_175 ?_
    refine lv_iload_n F.1 F.2.1 dX19_box_178 rfl (lv_at hl 0 rfl) ?_
    refine lv_iconst (v := (-1 : Int32)) F.1 F.2.1 dX19_box_179 (by decide) ?_
    refine zr_iast (k := 156) (by decide) rfl (by decide) F (zal_a F ha17_0 (j := 26) rfl) hr dX19_box_180 (by unfold vp_in; decide) (fun H locs z108 ez108 hr => ?_)
    replace h := zl_sub ez108 h
    clear ez108
    refine lv_aload_n F.1 F.2.1 dX19_box_181 rfl (lv_at hl 1 rfl) ?_
    refine gf19_304 F ha17_0 hr dX19_box_182 ?_
    refine lv_iload_n F.1 F.2.1 dX19_box_185 rfl (lv_at hl 0 rfl) ?_
    refine lv_iconst (v := (-1 : Int32)) F.1 F.2.1 dX19_box_186 (by decide) ?_
    refine zr_iast (k := 157) (by decide) rfl (by decide) F (zal_a F ha17_0 (j := 27) rfl) hr dX19_box_187 (by unfold vp_in; decide) (fun H locs z110 ez110 hr => ?_)
    replace h := zl_sub ez110 h
    clear ez110
    refine lv_iinc (v := (2 : Int32)) (lv' := [(3, .int (2 : Int32)), (2, .ref (B17 12 n1)), (0, .ref (B17 19 x0)), (1, .int (0 : Int32))]) F.1 F.2.1 dX19_box_188 hl (k := 0) rfl (by decide) (by decide) rfl (fun ls hl => ?_)
    refine lv_goto (tgt := 161) F.1 F.2.1 dX19_box_191 (by decide) ?_
    refine lv_iload_n F.1 F.2.1 dX19_box_161 rfl (lv_at hl 0 rfl) ?_
    refine lv_bipush (v := (24 : Int32)) F.1 F.2.1 dX19_box_162 (by decide) ?_
    refine lv_icmp_ge (tgt := 194) F.1 F.2.1 dX19_box_164 (by decide) (fun hc => absurd hc (by decide)) (fun _ => ?_)
    refine lv_aload_n F.1 F.2.1 dX19_box_167 rfl (lv_at hl 1 rfl) ?_
    refine gf19_301 F ha17_0 hr dX19_box_168 ?_
    refine lv_iload_n F.1 F.2.1 dX19_box_171 rfl (lv_at hl 0 rfl) ?_
    refine lv_iconst (v := (-1 : Int32)) F.1 F.2.1 dX19_box_172 (by decide) ?_
    refine zr_iast (k := 155) (by decide) rfl (by decide) F (zal_a F ha17_0 (j := 25) rfl) hr dX19_box_173 (by unfold vp_in; decide) (fun H locs z112 ez112 hr => ?_)
    replace h := zl_sub ez112 h
    clear ez112
    refine lv_aload_n F.1 F.2.1 dX19_box_174 rfl (lv_at hl 1 rfl) ?_
    refine gf19_307 F ha17_0 hr dX19_box_175 ?_
    refine lv_iload_n F.1 F.2.1 dX19_box_178 rfl (lv_at hl 0 rfl) ?_
    refine lv_iconst (v := (-1 : Int32)) F.1 F.2.1 dX19_box_179 (by decide) ?_
    refine zr_iast (k := 156) (by decide) rfl (by decide) F (zal_a F ha17_0 (j := 26) rfl) hr dX19_box_180 (by unfold vp_in; decide) (fun H locs z114 ez114 hr => ?_)
    replace h := zl_sub ez114 h
    clear ez114
    refine lv_aload_n F.1 F.2.1 dX19_box_181 rfl (lv_at hl 1 rfl) ?_
    refine gf19_304 F ha17_0 hr dX19_box_182 ?_
    refine lv_iload_n F.1 F.2.1 dX19_box_185 rfl (lv_at hl 0 rfl) ?_
    refine lv_iconst (v := (-1 : Int32)) F.1 F.2.1 dX19_box_186 (by decide) ?_
    refine zr_iast (k := 157) (by decide) rfl (by decide) F (zal_a F ha17_0 (j := 27) rfl) hr dX19_box_187 (by unfold vp_in; decide) (fun H locs z116 ez116 hr => ?_)
    replace h := zl_sub ez116 h
    clear ez116
    refine lv_iinc (v := (3 : Int32)) (lv' := [(3, .int (3 : Int32)), (2, .ref (B17 12 n1)), (0, .ref (B17 19 x0)), (1, .int (0 : Int32))]) F.1 F.2.1 dX19_box_188 hl (k := 0) rfl (by decide) (by decide) rfl (fun ls hl => ?_)
    refine lv_goto (tgt := 161) F.1 F.2.1 dX19_box_191 (by decide) ?_
    refine lv_iload_n F.1 F.2.1 dX19_box_161 rfl (lv_at hl 0 rfl) ?_
    refine lv_bipush (v := (24 : Int32)) F.1 F.2.1 dX19_box_162 (by decide) ?_
    refine lv_icmp_ge (tgt := 194) F.1 F.2.1 dX19_box_164 (by decide) (fun hc => absurd hc (by decide)) (fun _ => ?_)
    refine lv_aload_n F.1 F.2.1 dX19_box_167 rfl (lv_at hl 1 rfl) ?_
    refine gf19_301 F ha17_0 hr dX19_box_168 ?_
    refine lv_iload_n F.1 F.2.1 dX19_box_171 rfl (lv_at hl 0 rfl) ?_
    refine lv_iconst (v := (-1 : Int32)) F.1 F.2.1 dX19_box_172 (by decide) ?_
    refine zr_iast (k := 155) (by decide) rfl (by decide) F (zal_a F ha17_0 (j := 25) rfl) hr dX19_box_173 (by unfold vp_in; decide) (fun H locs z118 ez118 hr => ?_)
    replace h := zl_sub ez118 h
    clear ez118
    refine lv_aload_n F.1 F.2.1 dX19_box_174 rfl (lv_at hl 1 rfl) ?_
    refine gf19_307 F ha17_0 hr dX19_box_175 ?_
    refine lv_iload_n F.1 F.2.1 dX19_box_178 rfl (lv_at hl 0 rfl) ?_
    refine lv_iconst (v := (-1 : Int32)) F.1 F.2.1 dX19_box_179 (by decide) ?_
    refine zr_iast (k := 156) (by decide) rfl (by decide) F (zal_a F ha17_0 (j := 26) rfl) hr dX19_box_180 (by unfold vp_in; decide) (fun H locs z120 ez120 hr => ?_)
    replace h := zl_sub ez120 h
    clear ez120
    refine lv_aload_n F.1 F.2.1 dX19_box_181 rfl (lv_at hl 1 rfl) ?_
    refine gf19_304 F ha17_0 hr dX19_box_182 ?_
    refine lv_iload_n F.1 F.2.1 dX19_box_185 rfl (lv_at hl 0 rfl) ?_
    refine lv_iconst (v := (-1 : Int32)) F.1 F.2.1 dX19_box_186 (by decide) ?_
    refine zr_iast (k := 157) (by decide) rfl (by decide) F (zal_a F ha17_0 (j := 27) rfl) hr dX19_box_187 (by unfold vp_in; decide) (fun H locs z122 ez122 hr => ?_)
    replace h := zl_sub ez122 h
    clear ez122
    refine lv_iinc (v := (4 : Int32)) (lv' := [(3, .int (4 : Int32)), (2, .ref (B17 12 n1)), (0, .ref (B17 19 x0)), (1, .int (0 : Int32))]) F.1 F.2.1 dX19_box_188 hl (k := 0) rfl (by decide) (by decide) rfl (fun ls hl => ?_)
    refine lv_goto (tgt := 161) F.1 F.2.1 dX19_box_191 (by decide) ?_
    refine lv_iload_n F.1 F.2.1 dX19_box_161 rfl (lv_at hl 0 rfl) ?_
    refine lv_bipush (v := (24 : Int32)) F.1 F.2.1 dX19_box_162 (by decide) ?_
    refine lv_icmp_ge (tgt := 194) F.1 F.2.1 dX19_box_164 (by decide) (fun hc => absurd hc (by decide)) (fun _ => ?_)
    refine lv_aload_n F.1 F.2.1 dX19_box_167 rfl (lv_at hl 1 rfl) ?_
    refine gf19_301 F ha17_0 hr dX19_box_168 ?_
    refine lv_iload_n F.1 F.2.1 dX19_box_171 rfl (lv_at hl 0 rfl) ?_
    refine lv_iconst (v := (-1 : Int32)) F.1 F.2.1 dX19_box_172 (by decide) ?_
    refine zr_iast (k := 155) (by decide) rfl (by decide) F (zal_a F ha17_0 (j := 25) rfl) hr dX19_box_173 (by unfold vp_in; decide) (fun H locs z124 ez124 hr => ?_)
    replace h := zl_sub ez124 h
    clear ez124
    refine lv_aload_n F.1 F.2.1 dX19_box_174 rfl (lv_at hl 1 rfl) ?_
    refine gf19_307 F ha17_0 hr dX19_box_175 ?_
    refine lv_iload_n F.1 F.2.1 dX19_box_178 rfl (lv_at hl 0 rfl) ?_
    refine lv_iconst (v := (-1 : Int32)) F.1 F.2.1 dX19_box_179 (by decide) ?_
    refine zr_iast (k := 156) (by decide) rfl (by decide) F (zal_a F ha17_0 (j := 26) rfl) hr dX19_box_180 (by unfold vp_in; decide) (fun H locs z126 ez126 hr => ?_)
    replace h := zl_sub ez126 h
    clear ez126
    refine lv_aload_n F.1 F.2.1 dX19_box_181 rfl (lv_at hl 1 rfl) ?_
    refine gf19_304 F ha17_0 hr dX19_box_182 ?_
    refine lv_iload_n F.1 F.2.1 dX19_box_185 rfl (lv_at hl 0 rfl) ?_
    refine lv_iconst (v := (-1 : Int32)) F.1 F.2.1 dX19_box_186 (by decide) ?_
    refine zr_iast (k := 157) (by decide) rfl (by decide) F (zal_a F ha17_0 (j := 27) rfl) hr dX19_box_187 (by unfold vp_in; decide) (fun H locs z128 ez128 hr => ?_)
    replace h := zl_sub ez128 h
    clear ez128
    refine lv_iinc (v := (5 : Int32)) (lv' := [(3, .int (5 : Int32)), (2, .ref (B17 12 n1)), (0, .ref (B17 19 x0)), (1, .int (0 : Int32))]) F.1 F.2.1 dX19_box_188 hl (k := 0) rfl (by decide) (by decide) rfl (fun ls hl => ?_)
    refine lv_goto (tgt := 161) F.1 F.2.1 dX19_box_191 (by decide) ?_
    refine lv_iload_n F.1 F.2.1 dX19_box_161 rfl (lv_at hl 0 rfl) ?_
    refine lv_bipush (v := (24 : Int32)) F.1 F.2.1 dX19_box_162 (by decide) ?_
    refine lv_icmp_ge (tgt := 194) F.1 F.2.1 dX19_box_164 (by decide) (fun hc => absurd hc (by decide)) (fun _ => ?_)
    refine lv_aload_n F.1 F.2.1 dX19_box_167 rfl (lv_at hl 1 rfl) ?_
    refine gf19_301 F ha17_0 hr dX19_box_168 ?_
    refine lv_iload_n F.1 F.2.1 dX19_box_171 rfl (lv_at hl 0 rfl) ?_
    refine lv_iconst (v := (-1 : Int32)) F.1 F.2.1 dX19_box_172 (by decide) ?_
    refine zr_iast (k := 155) (by decide) rfl (by decide) F (zal_a F ha17_0 (j := 25) rfl) hr dX19_box_173 (by unfold vp_in; decide) (fun H locs z130 ez130 hr => ?_)
    replace h := zl_sub ez130 h
    clear ez130
    refine lv_aload_n F.1 F.2.1 dX19_box_174 rfl (lv_at hl 1 rfl) ?_
    refine gf19_307 F ha17_0 hr dX19_box_175 ?_
    refine lv_iload_n F.1 F.2.1 dX19_box_178 rfl (lv_at hl 0 rfl) ?_
    refine lv_iconst (v := (-1 : Int32)) F.1 F.2.1 dX19_box_179 (by decide) ?_
    refine zr_iast (k := 156) (by decide) rfl (by decide) F (zal_a F ha17_0 (j := 26) rfl) hr dX19_box_180 (by unfold vp_in; decide) (fun H locs z132 ez132 hr => ?_)
    replace h := zl_sub ez132 h
    clear ez132
    refine lv_aload_n F.1 F.2.1 dX19_box_181 rfl (lv_at hl 1 rfl) ?_
    refine gf19_304 F ha17_0 hr dX19_box_182 ?_
    refine lv_iload_n F.1 F.2.1 dX19_box_185 rfl (lv_at hl 0 rfl) ?_
    refine lv_iconst (v := (-1 : Int32)) F.1 F.2.1 dX19_box_186 (by decide) ?_
    refine zr_iast (k := 157) (by decide) rfl (by decide) F (zal_a F ha17_0 (j := 27) rfl) hr dX19_box_187 (by unfold vp_in; decide) (fun H locs z134 ez134 hr => ?_)
    replace h := zl_sub ez134 h
    clear ez134
    refine lv_iinc (v := (6 : Int32)) (lv' := [(3, .int (6 : Int32)), (2, .ref (B17 12 n1)), (0, .ref (B17 19 x0)), (1, .int (0 : Int32))]) F.1 F.2.1 dX19_box_188 hl (k := 0) rfl (by decide) (by decide) rfl (fun ls hl => ?_)
    refine lv_goto (tgt := 161) F.1 F.2.1 dX19_box_191 (by decide) ?_
    refine lv_iload_n F.1 F.2.1 dX19_box_161 rfl (lv_at hl 0 rfl) ?_
    refine lv_bipush (v := (24 : Int32)) F.1 F.2.1 dX19_box_162 (by decide) ?_
    refine lv_icmp_ge (tgt := 194) F.1 F.2.1 dX19_box_164 (by decide) (fun hc => absurd hc (by decide)) (fun _ => ?_)
    refine lv_aload_n F.1 F.2.1 dX19_box_167 rfl (lv_at hl 1 rfl) ?_
    refine gf19_301 F ha17_0 hr dX19_box_168 ?_
    refine lv_iload_n F.1 F.2.1 dX19_box_171 rfl (lv_at hl 0 rfl) ?_
    refine lv_iconst (v := (-1 : Int32)) F.1 F.2.1 dX19_box_172 (by decide) ?_
    refine zr_iast (k := 155) (by decide) rfl (by decide) F (zal_a F ha17_0 (j := 25) rfl) hr dX19_box_173 (by unfold vp_in; decide) (fun H locs z136 ez136 hr => ?_)
    replace h := zl_sub ez136 h
    clear ez136
    refine lv_aload_n F.1 F.2.1 dX19_box_174 rfl (lv_at hl 1 rfl) ?_
    refine gf19_307 F ha17_0 hr dX19_box_175 ?_
    refine lv_iload_n F.1 F.2.1 dX19_box_178 rfl (lv_at hl 0 rfl) ?_
    refine lv_iconst (v := (-1 : Int32)) F.1 F.2.1 dX19_box_179 (by decide) ?_
    refine zr_iast (k := 156) (by decide) rfl (by decide) F (zal_a F ha17_0 (j := 26) rfl) hr dX19_box_180 (by unfold vp_in; decide) (fun H locs z138 ez138 hr => ?_)
    replace h := zl_sub ez138 h
    clear ez138
    refine lv_aload_n F.1 F.2.1 dX19_box_181 rfl (lv_at hl 1 rfl) ?_
    refine gf19_304 F ha17_0 hr dX19_box_182 ?_
    refine lv_iload_n F.1 F.2.1 dX19_box_185 rfl (lv_at hl 0 rfl) ?_
    refine lv_iconst (v := (-1 : Int32)) F.1 F.2.1 dX19_box_186 (by decide) ?_
    refine zr_iast (k := 157) (by decide) rfl (by decide) F (zal_a F ha17_0 (j := 27) rfl) hr dX19_box_187 (by unfold vp_in; decide) (fun H locs z140 ez140 hr => ?_)
    replace h := zl_sub ez140 h
    clear ez140
    refine lv_iinc (v := (7 : Int32)) (lv' := [(3, .int (7 : Int32)), (2, .ref (B17 12 n1)), (0, .ref (B17 19 x0)), (1, .int (0 : Int32))]) F.1 F.2.1 dX19_box_188 hl (k := 0) rfl (by decide) (by decide) rfl (fun ls hl => ?_)
    refine lv_goto (tgt := 161) F.1 F.2.1 dX19_box_191 (by decide) ?_
    refine lv_iload_n F.1 F.2.1 dX19_box_161 rfl (lv_at hl 0 rfl) ?_
    refine lv_bipush (v := (24 : Int32)) F.1 F.2.1 dX19_box_162 (by decide) ?_
    refine lv_icmp_ge (tgt := 194) F.1 F.2.1 dX19_box_164 (by decide) (fun hc => absurd hc (by decide)) (fun _ => ?_)
    refine lv_aload_n F.1 F.2.1 dX19_box_167 rfl (lv_at hl 1 rfl) ?_
    refine gf19_301 F ha17_0 hr dX19_box_168 ?_
    refine lv_iload_n F.1 F.2.1 dX19_box_171 rfl (lv_at hl 0 rfl) ?_
    refine lv_iconst (v := (-1 : Int32)) F.1 F.2.1 dX19_box_172 (by decide) ?_
    refine zr_iast (k := 155) (by decide) rfl (by decide) F (zal_a F ha17_0 (j := 25) rfl) hr dX19_box_173 (by unfold vp_in; decide) (fun H locs z142 ez142 hr => ?_)
    replace h := zl_sub ez142 h
    clear ez142
    refine lv_aload_n F.1 F.2.1 dX19_box_174 rfl (lv_at hl 1 rfl) ?_
    refine gf19_307 F ha17_0 hr dX19_box_175 ?_
    refine lv_iload_n F.1 F.2.1 dX19_box_178 rfl (lv_at hl 0 rfl) ?_
    refine lv_iconst (v := (-1 : Int32)) F.1 F.2.1 dX19_box_179 (by decide) ?_
    refine zr_iast (k := 156) (by decide) rfl (by decide) F (zal_a F ha17_0 (j := 26) rfl) hr dX19_box_180 (by unfold vp_in; decide) (fun H locs z144 ez144 hr => ?_)
    replace h := zl_sub ez144 h
    clear ez144
    refine lv_aload_n F.1 F.2.1 dX19_box_181 rfl (lv_at hl 1 rfl) ?_
    refine gf19_304 F ha17_0 hr dX19_box_182 ?_
    refine lv_iload_n F.1 F.2.1 dX19_box_185 rfl (lv_at hl 0 rfl) ?_
    refine lv_iconst (v := (-1 : Int32)) F.1 F.2.1 dX19_box_186 (by decide) ?_
    refine zr_iast (k := 157) (by decide) rfl (by decide) F (zal_a F ha17_0 (j := 27) rfl) hr dX19_box_187 (by unfold vp_in; decide) (fun H locs z146 ez146 hr => ?_)
    replace h := zl_sub ez146 h
    clear ez146
    refine lv_iinc (v := (8 : Int32)) (lv' := [(3, .int (8 : Int32)), (2, .ref (B17 12 n1)), (0, .ref (B17 19 x0)), (1, .int (0 : Int32))]) F.1 F.2.1 dX19_box_188 hl (k := 0) rfl (by decide) (by decide) rfl (fun ls hl => ?_)
    refine lv_goto (tgt := 161) F.1 F.2.1 dX19_box_191 (by decide) ?_
    refine lv_iload_n F.1 F.2.1 dX19_box_161 rfl (lv_at hl 0 rfl) ?_
    refine lv_bipush (v := (24 : Int32)) F.1 F.2.1 dX19_box_162 (by decide) ?_
    refine lv_icmp_ge (tgt := 194) F.1 F.2.1 dX19_box_164 (by decide) (fun hc => absurd hc (by decide)) (fun _ => ?_)
    refine lv_aload_n F.1 F.2.1 dX19_box_167 rfl (lv_at hl 1 rfl) ?_
    refine gf19_301 F ha17_0 hr dX19_box_168 ?_
    refine lv_iload_n F.1 F.2.1 dX19_box_171 rfl (lv_at hl 0 rfl) ?_
    refine lv_iconst (v := (-1 : Int32)) F.1 F.2.1 dX19_box_172 (by decide) ?_
    refine zr_iast (k := 155) (by decide) rfl (by decide) F (zal_a F ha17_0 (j := 25) rfl) hr dX19_box_173 (by unfold vp_in; decide) (fun H locs z148 ez148 hr => ?_)
    replace h := zl_sub ez148 h
    clear ez148
    refine lv_aload_n F.1 F.2.1 dX19_box_174 rfl (lv_at hl 1 rfl) ?_
    refine gf19_307 F ha17_0 hr dX19_box_175 ?_
    refine lv_iload_n F.1 F.2.1 dX19_box_178 rfl (lv_at hl 0 rfl) ?_
    refine lv_iconst (v := (-1 : Int32)) F.1 F.2.1 dX19_box_179 (by decide) ?_
    refine zr_iast (k := 156) (by decide) rfl (by decide) F (zal_a F ha17_0 (j := 26) rfl) hr dX19_box_180 (by unfold vp_in; decide) (fun H locs z150 ez150 hr => ?_)
    replace h := zl_sub ez150 h
    clear ez150
    refine lv_aload_n F.1 F.2.1 dX19_box_181 rfl (lv_at hl 1 rfl) ?_
    refine gf19_304 F ha17_0 hr dX19_box_182 ?_
    refine lv_iload_n F.1 F.2.1 dX19_box_185 rfl (lv_at hl 0 rfl) ?_
    refine lv_iconst (v := (-1 : Int32)) F.1 F.2.1 dX19_box_186 (by decide) ?_
    refine zr_iast (k := 157) (by decide) rfl (by decide) F (zal_a F ha17_0 (j := 27) rfl) hr dX19_box_187 (by unfold vp_in; decide) (fun H locs z152 ez152 hr => ?_)
    replace h := zl_sub ez152 h
    clear ez152
    refine lv_iinc (v := (9 : Int32)) (lv' := [(3, .int (9 : Int32)), (2, .ref (B17 12 n1)), (0, .ref (B17 19 x0)), (1, .int (0 : Int32))]) F.1 F.2.1 dX19_box_188 hl (k := 0) rfl (by decide) (by decide) rfl (fun ls hl => ?_)
    refine lv_goto (tgt := 161) F.1 F.2.1 dX19_box_191 (by decide) ?_
    refine lv_iload_n F.1 F.2.1 dX19_box_161 rfl (lv_at hl 0 rfl) ?_
    refine lv_bipush (v := (24 : Int32)) F.1 F.2.1 dX19_box_162 (by decide) ?_
    refine lv_icmp_ge (tgt := 194) F.1 F.2.1 dX19_box_164 (by decide) (fun hc => absurd hc (by decide)) (fun _ => ?_)
    refine lv_aload_n F.1 F.2.1 dX19_box_167 rfl (lv_at hl 1 rfl) ?_
    refine gf19_301 F ha17_0 hr dX19_box_168 ?_
    refine lv_iload_n F.1 F.2.1 dX19_box_171 rfl (lv_at hl 0 rfl) ?_
    refine lv_iconst (v := (-1 : Int32)) F.1 F.2.1 dX19_box_172 (by decide) ?_
    refine zr_iast (k := 155) (by decide) rfl (by decide) F (zal_a F ha17_0 (j := 25) rfl) hr dX19_box_173 (by unfold vp_in; decide) (fun H locs z154 ez154 hr => ?_)
    replace h := zl_sub ez154 h
    clear ez154
    refine lv_aload_n F.1 F.2.1 dX19_box_174 rfl (lv_at hl 1 rfl) ?_
    refine gf19_307 F ha17_0 hr dX19_box_175 ?_
    refine lv_iload_n F.1 F.2.1 dX19_box_178 rfl (lv_at hl 0 rfl) ?_
    refine lv_iconst (v := (-1 : Int32)) F.1 F.2.1 dX19_box_179 (by decide) ?_
    refine zr_iast (k := 156) (by decide) rfl (by decide) F (zal_a F ha17_0 (j := 26) rfl) hr dX19_box_180 (by unfold vp_in; decide) (fun H locs z156 ez156 hr => ?_)
    replace h := zl_sub ez156 h
    clear ez156
    refine lv_aload_n F.1 F.2.1 dX19_box_181 rfl (lv_at hl 1 rfl) ?_
    refine gf19_304 F ha17_0 hr dX19_box_182 ?_
    refine lv_iload_n F.1 F.2.1 dX19_box_185 rfl (lv_at hl 0 rfl) ?_
    refine lv_iconst (v := (-1 : Int32)) F.1 F.2.1 dX19_box_186 (by decide) ?_
    refine zr_iast (k := 157) (by decide) rfl (by decide) F (zal_a F ha17_0 (j := 27) rfl) hr dX19_box_187 (by unfold vp_in; decide) (fun H locs z158 ez158 hr => ?_)
    replace h := zl_sub ez158 h
    clear ez158
    refine lv_iinc (v := (10 : Int32)) (lv' := [(3, .int (10 : Int32)), (2, .ref (B17 12 n1)), (0, .ref (B17 19 x0)), (1, .int (0 : Int32))]) F.1 F.2.1 dX19_box_188 hl (k := 0) rfl (by decide) (by decide) rfl (fun ls hl => ?_)
    refine lv_goto (tgt := 161) F.1 F.2.1 dX19_box_191 (by decide) ?_
    refine lv_iload_n F.1 F.2.1 dX19_box_161 rfl (lv_at hl 0 rfl) ?_
    refine lv_bipush (v := (24 : Int32)) F.1 F.2.1 dX19_box_162 (by decide) ?_
    refine lv_icmp_ge (tgt := 194) F.1 F.2.1 dX19_box_164 (by decide) (fun hc => absurd hc (by decide)) (fun _ => ?_)
    refine lv_aload_n F.1 F.2.1 dX19_box_167 rfl (lv_at hl 1 rfl) ?_
    refine gf19_301 F ha17_0 hr dX19_box_168 ?_
    refine lv_iload_n F.1 F.2.1 dX19_box_171 rfl (lv_at hl 0 rfl) ?_
    refine lv_iconst (v := (-1 : Int32)) F.1 F.2.1 dX19_box_172 (by decide) ?_
    refine zr_iast (k := 155) (by decide) rfl (by decide) F (zal_a F ha17_0 (j := 25) rfl) hr dX19_box_173 (by unfold vp_in; decide) (fun H locs z160 ez160 hr => ?_)
    replace h := zl_sub ez160 h
    clear ez160
    refine lv_aload_n F.1 F.2.1 dX19_box_174 rfl (lv_at hl 1 rfl) ?_
    refine gf19_307 F ha17_0 hr dX19_box_175 ?_
    refine lv_iload_n F.1 F.2.1 dX19_box_178 rfl (lv_at hl 0 rfl) ?_
    refine lv_iconst (v := (-1 : Int32)) F.1 F.2.1 dX19_box_179 (by decide) ?_
    refine zr_iast (k := 156) (by decide) rfl (by decide) F (zal_a F ha17_0 (j := 26) rfl) hr dX19_box_180 (by unfold vp_in; decide) (fun H locs z162 ez162 hr => ?_)
    replace h := zl_sub ez162 h
    clear ez162
    refine lv_aload_n F.1 F.2.1 dX19_box_181 rfl (lv_at hl 1 rfl) ?_
    refine gf19_304 F ha17_0 hr dX19_box_182 ?_
    refine lv_iload_n F.1 F.2.1 dX19_box_185 rfl (lv_at hl 0 rfl) ?_
    refine lv_iconst (v := (-1 : Int32)) F.1 F.2.1 dX19_box_186 (by decide) ?_
    refine zr_iast (k := 157) (by decide) rfl (by decide) F (zal_a F ha17_0 (j := 27) rfl) hr dX19_box_187 (by unfold vp_in; decide) (fun H locs z164 ez164 hr => ?_)
    replace h := zl_sub ez164 h
    clear ez164
    refine lv_iinc (v := (11 : Int32)) (lv' := [(3, .int (11 : Int32)), (2, .ref (B17 12 n1)), (0, .ref (B17 19 x0)), (1, .int (0 : Int32))]) F.1 F.2.1 dX19_box_188 hl (k := 0) rfl (by decide) (by decide) rfl (fun ls hl => ?_)
    refine lv_goto (tgt := 161) F.1 F.2.1 dX19_box_191 (by decide) ?_
    refine lv_iload_n F.1 F.2.1 dX19_box_161 rfl (lv_at hl 0 rfl) ?_
    refine lv_bipush (v := (24 : Int32)) F.1 F.2.1 dX19_box_162 (by decide) ?_
    refine lv_icmp_ge (tgt := 194) F.1 F.2.1 dX19_box_164 (by decide) (fun hc => absurd hc (by decide)) (fun _ => ?_)
    refine lv_aload_n F.1 F.2.1 dX19_box_167 rfl (lv_at hl 1 rfl) ?_
    refine gf19_301 F ha17_0 hr dX19_box_168 ?_
    refine lv_iload_n F.1 F.2.1 dX19_box_171 rfl (lv_at hl 0 rfl) ?_
    refine lv_iconst (v := (-1 : Int32)) F.1 F.2.1 dX19_box_172 (by decide) ?_
    refine zr_iast (k := 155) (by decide) rfl (by decide) F (zal_a F ha17_0 (j := 25) rfl) hr dX19_box_173 (by unfold vp_in; decide) (fun H locs z166 ez166 hr => ?_)
    replace h := zl_sub ez166 h
    clear ez166
    refine lv_aload_n F.1 F.2.1 dX19_box_174 rfl (lv_at hl 1 rfl) ?_
    refine gf19_307 F ha17_0 hr dX19_box_175 ?_
    refine lv_iload_n F.1 F.2.1 dX19_box_178 rfl (lv_at hl 0 rfl) ?_
    refine lv_iconst (v := (-1 : Int32)) F.1 F.2.1 dX19_box_179 (by decide) ?_
    refine zr_iast (k := 156) (by decide) rfl (by decide) F (zal_a F ha17_0 (j := 26) rfl) hr dX19_box_180 (by unfold vp_in; decide) (fun H locs z168 ez168 hr => ?_)
    replace h := zl_sub ez168 h
    clear ez168
    refine lv_aload_n F.1 F.2.1 dX19_box_181 rfl (lv_at hl 1 rfl) ?_
    refine gf19_304 F ha17_0 hr dX19_box_182 ?_
    refine lv_iload_n F.1 F.2.1 dX19_box_185 rfl (lv_at hl 0 rfl) ?_
    refine lv_iconst (v := (-1 : Int32)) F.1 F.2.1 dX19_box_186 (by decide) ?_
    refine zr_iast (k := 157) (by decide) rfl (by decide) F (zal_a F ha17_0 (j := 27) rfl) hr dX19_box_187 (by unfold vp_in; decide) (fun H locs z170 ez170 hr => ?_)
    replace h := zl_sub ez170 h
    clear ez170
    refine lv_iinc (v := (12 : Int32)) (lv' := [(3, .int (12 : Int32)), (2, .ref (B17 12 n1)), (0, .ref (B17 19 x0)), (1, .int (0 : Int32))]) F.1 F.2.1 dX19_box_188 hl (k := 0) rfl (by decide) (by decide) rfl (fun ls hl => ?_)
    refine lv_goto (tgt := 161) F.1 F.2.1 dX19_box_191 (by decide) ?_
    refine lv_iload_n F.1 F.2.1 dX19_box_161 rfl (lv_at hl 0 rfl) ?_
    refine lv_bipush (v := (24 : Int32)) F.1 F.2.1 dX19_box_162 (by decide) ?_
    refine lv_icmp_ge (tgt := 194) F.1 F.2.1 dX19_box_164 (by decide) (fun hc => absurd hc (by decide)) (fun _ => ?_)
    refine lv_aload_n F.1 F.2.1 dX19_box_167 rfl (lv_at hl 1 rfl) ?_
    refine gf19_301 F ha17_0 hr dX19_box_168 ?_
    refine lv_iload_n F.1 F.2.1 dX19_box_171 rfl (lv_at hl 0 rfl) ?_
    refine lv_iconst (v := (-1 : Int32)) F.1 F.2.1 dX19_box_172 (by decide) ?_
    refine zr_iast (k := 155) (by decide) rfl (by decide) F (zal_a F ha17_0 (j := 25) rfl) hr dX19_box_173 (by unfold vp_in; decide) (fun H locs z172 ez172 hr => ?_)
    replace h := zl_sub ez172 h
    clear ez172
    refine lv_aload_n F.1 F.2.1 dX19_box_174 rfl (lv_at hl 1 rfl) ?_
    refine gf19_307 F ha17_0 hr dX19_box_175 ?_
    refine lv_iload_n F.1 F.2.1 dX19_box_178 rfl (lv_at hl 0 rfl) ?_
    refine lv_iconst (v := (-1 : Int32)) F.1 F.2.1 dX19_box_179 (by decide) ?_
    refine zr_iast (k := 156) (by decide) rfl (by decide) F (zal_a F ha17_0 (j := 26) rfl) hr dX19_box_180 (by unfold vp_in; decide) (fun H locs z174 ez174 hr => ?_)
    replace h := zl_sub ez174 h
    clear ez174
    refine lv_aload_n F.1 F.2.1 dX19_box_181 rfl (lv_at hl 1 rfl) ?_
    refine gf19_304 F ha17_0 hr dX19_box_182 ?_
    refine lv_iload_n F.1 F.2.1 dX19_box_185 rfl (lv_at hl 0 rfl) ?_
    refine lv_iconst (v := (-1 : Int32)) F.1 F.2.1 dX19_box_186 (by decide) ?_
    refine zr_iast (k := 157) (by decide) rfl (by decide) F (zal_a F ha17_0 (j := 27) rfl) hr dX19_box_187 (by unfold vp_in; decide) (fun H locs z176 ez176 hr => ?_)
    replace h := zl_sub ez176 h
    clear ez176
    refine lv_iinc (v := (13 : Int32)) (lv' := [(3, .int (13 : Int32)), (2, .ref (B17 12 n1)), (0, .ref (B17 19 x0)), (1, .int (0 : Int32))]) F.1 F.2.1 dX19_box_188 hl (k := 0) rfl (by decide) (by decide) rfl (fun ls hl => ?_)
    refine lv_goto (tgt := 161) F.1 F.2.1 dX19_box_191 (by decide) ?_
    refine lv_iload_n F.1 F.2.1 dX19_box_161 rfl (lv_at hl 0 rfl) ?_
    refine lv_bipush (v := (24 : Int32)) F.1 F.2.1 dX19_box_162 (by decide) ?_
    refine lv_icmp_ge (tgt := 194) F.1 F.2.1 dX19_box_164 (by decide) (fun hc => absurd hc (by decide)) (fun _ => ?_)
    refine lv_aload_n F.1 F.2.1 dX19_box_167 rfl (lv_at hl 1 rfl) ?_
    refine gf19_301 F ha17_0 hr dX19_box_168 ?_
    refine lv_iload_n F.1 F.2.1 dX19_box_171 rfl (lv_at hl 0 rfl) ?_
    refine lv_iconst (v := (-1 : Int32)) F.1 F.2.1 dX19_box_172 (by decide) ?_
    refine zr_iast (k := 155) (by decide) rfl (by decide) F (zal_a F ha17_0 (j := 25) rfl) hr dX19_box_173 (by unfold vp_in; decide) (fun H locs z178 ez178 hr => ?_)
    replace h := zl_sub ez178 h
    clear ez178
    refine lv_aload_n F.1 F.2.1 dX19_box_174 rfl (lv_at hl 1 rfl) ?_
    refine gf19_307 F ha17_0 hr dX19_box_175 ?_
    refine lv_iload_n F.1 F.2.1 dX19_box_178 rfl (lv_at hl 0 rfl) ?_
    refine lv_iconst (v := (-1 : Int32)) F.1 F.2.1 dX19_box_179 (by decide) ?_
    refine zr_iast (k := 156) (by decide) rfl (by decide) F (zal_a F ha17_0 (j := 26) rfl) hr dX19_box_180 (by unfold vp_in; decide) (fun H locs z180 ez180 hr => ?_)
    replace h := zl_sub ez180 h
    clear ez180
    refine lv_aload_n F.1 F.2.1 dX19_box_181 rfl (lv_at hl 1 rfl) ?_
    refine gf19_304 F ha17_0 hr dX19_box_182 ?_
    refine lv_iload_n F.1 F.2.1 dX19_box_185 rfl (lv_at hl 0 rfl) ?_
    refine lv_iconst (v := (-1 : Int32)) F.1 F.2.1 dX19_box_186 (by decide) ?_
    refine zr_iast (k := 157) (by decide) rfl (by decide) F (zal_a F ha17_0 (j := 27) rfl) hr dX19_box_187 (by unfold vp_in; decide) (fun H locs z182 ez182 hr => ?_)
    replace h := zl_sub ez182 h
    clear ez182
    refine lv_iinc (v := (14 : Int32)) (lv' := [(3, .int (14 : Int32)), (2, .ref (B17 12 n1)), (0, .ref (B17 19 x0)), (1, .int (0 : Int32))]) F.1 F.2.1 dX19_box_188 hl (k := 0) rfl (by decide) (by decide) rfl (fun ls hl => ?_)
    refine lv_goto (tgt := 161) F.1 F.2.1 dX19_box_191 (by decide) ?_
    refine lv_iload_n F.1 F.2.1 dX19_box_161 rfl (lv_at hl 0 rfl) ?_
    refine lv_bipush (v := (24 : Int32)) F.1 F.2.1 dX19_box_162 (by decide) ?_
    refine lv_icmp_ge (tgt := 194) F.1 F.2.1 dX19_box_164 (by decide) (fun hc => absurd hc (by decide)) (fun _ => ?_)
    refine lv_aload_n F.1 F.2.1 dX19_box_167 rfl (lv_at hl 1 rfl) ?_
    refine gf19_301 F ha17_0 hr dX19_box_168 ?_
    refine lv_iload_n F.1 F.2.1 dX19_box_171 rfl (lv_at hl 0 rfl) ?_
    refine lv_iconst (v := (-1 : Int32)) F.1 F.2.1 dX19_box_172 (by decide) ?_
    refine zr_iast (k := 155) (by decide) rfl (by decide) F (zal_a F ha17_0 (j := 25) rfl) hr dX19_box_173 (by unfold vp_in; decide) (fun H locs z184 ez184 hr => ?_)
    replace h := zl_sub ez184 h
    clear ez184
    refine lv_aload_n F.1 F.2.1 dX19_box_174 rfl (lv_at hl 1 rfl) ?_
    refine gf19_307 F ha17_0 hr dX19_box_175 ?_
    refine lv_iload_n F.1 F.2.1 dX19_box_178 rfl (lv_at hl 0 rfl) ?_
    refine lv_iconst (v := (-1 : Int32)) F.1 F.2.1 dX19_box_179 (by decide) ?_
    refine zr_iast (k := 156) (by decide) rfl (by decide) F (zal_a F ha17_0 (j := 26) rfl) hr dX19_box_180 (by unfold vp_in; decide) (fun H locs z186 ez186 hr => ?_)
    replace h := zl_sub ez186 h
    clear ez186
    refine lv_aload_n F.1 F.2.1 dX19_box_181 rfl (lv_at hl 1 rfl) ?_
    refine gf19_304 F ha17_0 hr dX19_box_182 ?_
    refine lv_iload_n F.1 F.2.1 dX19_box_185 rfl (lv_at hl 0 rfl) ?_
    refine lv_iconst (v := (-1 : Int32)) F.1 F.2.1 dX19_box_186 (by decide) ?_
    refine zr_iast (k := 157) (by decide) rfl (by decide) F (zal_a F ha17_0 (j := 27) rfl) hr dX19_box_187 (by unfold vp_in; decide) (fun H locs z188 ez188 hr => ?_)
    replace h := zl_sub ez188 h
    clear ez188
    refine lv_iinc (v := (15 : Int32)) (lv' := [(3, .int (15 : Int32)), (2, .ref (B17 12 n1)), (0, .ref (B17 19 x0)), (1, .int (0 : Int32))]) F.1 F.2.1 dX19_box_188 hl (k := 0) rfl (by decide) (by decide) rfl (fun ls hl => ?_)
    refine lv_goto (tgt := 161) F.1 F.2.1 dX19_box_191 (by decide) ?_
    refine lv_iload_n F.1 F.2.1 dX19_box_161 rfl (lv_at hl 0 rfl) ?_
    refine lv_bipush (v := (24 : Int32)) F.1 F.2.1 dX19_box_162 (by decide) ?_
    refine lv_icmp_ge (tgt := 194) F.1 F.2.1 dX19_box_164 (by decide) (fun hc => absurd hc (by decide)) (fun _ => ?_)
    refine lv_aload_n F.1 F.2.1 dX19_box_167 rfl (lv_at hl 1 rfl) ?_
    refine gf19_301 F ha17_0 hr dX19_box_168 ?_
    refine lv_iload_n F.1 F.2.1 dX19_box_171 rfl (lv_at hl 0 rfl) ?_
    refine lv_iconst (v := (-1 : Int32)) F.1 F.2.1 dX19_box_172 (by decide) ?_
    refine zr_iast (k := 155) (by decide) rfl (by decide) F (zal_a F ha17_0 (j := 25) rfl) hr dX19_box_173 (by unfold vp_in; decide) (fun H locs z190 ez190 hr => ?_)
    replace h := zl_sub ez190 h
    clear ez190
    refine lv_aload_n F.1 F.2.1 dX19_box_174 rfl (lv_at hl 1 rfl) ?_
    refine gf19_307 F ha17_0 hr dX19_box_175 ?_
    refine lv_iload_n F.1 F.2.1 dX19_box_178 rfl (lv_at hl 0 rfl) ?_
    refine lv_iconst (v := (-1 : Int32)) F.1 F.2.1 dX19_box_179 (by decide) ?_
    refine zr_iast (k := 156) (by decide) rfl (by decide) F (zal_a F ha17_0 (j := 26) rfl) hr dX19_box_180 (by unfold vp_in; decide) (fun H locs z192 ez192 hr => ?_)
    replace h := zl_sub ez192 h
    clear ez192
    refine lv_aload_n F.1 F.2.1 dX19_box_181 rfl (lv_at hl 1 rfl) ?_
    refine gf19_304 F ha17_0 hr dX19_box_182 ?_
    refine lv_iload_n F.1 F.2.1 dX19_box_185 rfl (lv_at hl 0 rfl) ?_
    refine lv_iconst (v := (-1 : Int32)) F.1 F.2.1 dX19_box_186 (by decide) ?_
    refine zr_iast (k := 157) (by decide) rfl (by decide) F (zal_a F ha17_0 (j := 27) rfl) hr dX19_box_187 (by unfold vp_in; decide) (fun H locs z194 ez194 hr => ?_)
    replace h := zl_sub ez194 h
    clear ez194
    refine lv_iinc (v := (16 : Int32)) (lv' := [(3, .int (16 : Int32)), (2, .ref (B17 12 n1)), (0, .ref (B17 19 x0)), (1, .int (0 : Int32))]) F.1 F.2.1 dX19_box_188 hl (k := 0) rfl (by decide) (by decide) rfl (fun ls hl => ?_)
    refine lv_goto (tgt := 161) F.1 F.2.1 dX19_box_191 (by decide) ?_
    refine lv_iload_n F.1 F.2.1 dX19_box_161 rfl (lv_at hl 0 rfl) ?_
    refine lv_bipush (v := (24 : Int32)) F.1 F.2.1 dX19_box_162 (by decide) ?_
    refine lv_icmp_ge (tgt := 194) F.1 F.2.1 dX19_box_164 (by decide) (fun hc => absurd hc (by decide)) (fun _ => ?_)
    refine lv_aload_n F.1 F.2.1 dX19_box_167 rfl (lv_at hl 1 rfl) ?_
    refine gf19_301 F ha17_0 hr dX19_box_168 ?_
    refine lv_iload_n F.1 F.2.1 dX19_box_171 rfl (lv_at hl 0 rfl) ?_
    refine lv_iconst (v := (-1 : Int32)) F.1 F.2.1 dX19_box_172 (by decide) ?_
    refine zr_iast (k := 155) (by decide) rfl (by decide) F (zal_a F ha17_0 (j := 25) rfl) hr dX19_box_173 (by unfold vp_in; decide) (fun H locs z196 ez196 hr => ?_)
    replace h := zl_sub ez196 h
    clear ez196
    refine lv_aload_n F.1 F.2.1 dX19_box_174 rfl (lv_at hl 1 rfl) ?_
    refine gf19_307 F ha17_0 hr dX19_box_175 ?_
    refine lv_iload_n F.1 F.2.1 dX19_box_178 rfl (lv_at hl 0 rfl) ?_
    refine lv_iconst (v := (-1 : Int32)) F.1 F.2.1 dX19_box_179 (by decide) ?_
    refine zr_iast (k := 156) (by decide) rfl (by decide) F (zal_a F ha17_0 (j := 26) rfl) hr dX19_box_180 (by unfold vp_in; decide) (fun H locs z198 ez198 hr => ?_)
    replace h := zl_sub ez198 h
    clear ez198
    refine lv_aload_n F.1 F.2.1 dX19_box_181 rfl (lv_at hl 1 rfl) ?_
    refine gf19_304 F ha17_0 hr dX19_box_182 ?_
    refine lv_iload_n F.1 F.2.1 dX19_box_185 rfl (lv_at hl 0 rfl) ?_
    refine lv_iconst (v := (-1 : Int32)) F.1 F.2.1 dX19_box_186 (by decide) ?_
    refine zr_iast (k := 157) (by decide) rfl (by decide) F (zal_a F ha17_0 (j := 27) rfl) hr dX19_box_187 (by unfold vp_in; decide) (fun H locs z200 ez200 hr => ?_)
    replace h := zl_sub ez200 h
    clear ez200
    refine lv_iinc (v := (17 : Int32)) (lv' := [(3, .int (17 : Int32)), (2, .ref (B17 12 n1)), (0, .ref (B17 19 x0)), (1, .int (0 : Int32))]) F.1 F.2.1 dX19_box_188 hl (k := 0) rfl (by decide) (by decide) rfl (fun ls hl => ?_)
    refine lv_goto (tgt := 161) F.1 F.2.1 dX19_box_191 (by decide) ?_
    refine lv_iload_n F.1 F.2.1 dX19_box_161 rfl (lv_at hl 0 rfl) ?_
    refine lv_bipush (v := (24 : Int32)) F.1 F.2.1 dX19_box_162 (by decide) ?_
    refine lv_icmp_ge (tgt := 194) F.1 F.2.1 dX19_box_164 (by decide) (fun hc => absurd hc (by decide)) (fun _ => ?_)
    refine lv_aload_n F.1 F.2.1 dX19_box_167 rfl (lv_at hl 1 rfl) ?_
    refine gf19_301 F ha17_0 hr dX19_box_168 ?_
    refine lv_iload_n F.1 F.2.1 dX19_box_171 rfl (lv_at hl 0 rfl) ?_
    refine lv_iconst (v := (-1 : Int32)) F.1 F.2.1 dX19_box_172 (by decide) ?_
    refine zr_iast (k := 155) (by decide) rfl (by decide) F (zal_a F ha17_0 (j := 25) rfl) hr dX19_box_173 (by unfold vp_in; decide) (fun H locs z202 ez202 hr => ?_)
    replace h := zl_sub ez202 h
    clear ez202
    refine lv_aload_n F.1 F.2.1 dX19_box_174 rfl (lv_at hl 1 rfl) ?_
    refine gf19_307 F ha17_0 hr dX19_box_175 ?_
    refine lv_iload_n F.1 F.2.1 dX19_box_178 rfl (lv_at hl 0 rfl) ?_
    refine lv_iconst (v := (-1 : Int32)) F.1 F.2.1 dX19_box_179 (by decide) ?_
    refine zr_iast (k := 156) (by decide) rfl (by decide) F (zal_a F ha17_0 (j := 26) rfl) hr dX19_box_180 (by unfold vp_in; decide) (fun H locs z204 ez204 hr => ?_)
    replace h := zl_sub ez204 h
    clear ez204
    refine lv_aload_n F.1 F.2.1 dX19_box_181 rfl (lv_at hl 1 rfl) ?_
    refine gf19_304 F ha17_0 hr dX19_box_182 ?_
    refine lv_iload_n F.1 F.2.1 dX19_box_185 rfl (lv_at hl 0 rfl) ?_
    refine lv_iconst (v := (-1 : Int32)) F.1 F.2.1 dX19_box_186 (by decide) ?_
    refine zr_iast (k := 157) (by decide) rfl (by decide) F (zal_a F ha17_0 (j := 27) rfl) hr dX19_box_187 (by unfold vp_in; decide) (fun H locs z206 ez206 hr => ?_)
    replace h := zl_sub ez206 h
    clear ez206
    refine lv_iinc (v := (18 : Int32)) (lv' := [(3, .int (18 : Int32)), (2, .ref (B17 12 n1)), (0, .ref (B17 19 x0)), (1, .int (0 : Int32))]) F.1 F.2.1 dX19_box_188 hl (k := 0) rfl (by decide) (by decide) rfl (fun ls hl => ?_)
    refine lv_goto (tgt := 161) F.1 F.2.1 dX19_box_191 (by decide) ?_
    refine lv_iload_n F.1 F.2.1 dX19_box_161 rfl (lv_at hl 0 rfl) ?_
    refine lv_bipush (v := (24 : Int32)) F.1 F.2.1 dX19_box_162 (by decide) ?_
    refine lv_icmp_ge (tgt := 194) F.1 F.2.1 dX19_box_164 (by decide) (fun hc => absurd hc (by decide)) (fun _ => ?_)
    refine lv_aload_n F.1 F.2.1 dX19_box_167 rfl (lv_at hl 1 rfl) ?_
    refine gf19_301 F ha17_0 hr dX19_box_168 ?_
    refine lv_iload_n F.1 F.2.1 dX19_box_171 rfl (lv_at hl 0 rfl) ?_
    refine lv_iconst (v := (-1 : Int32)) F.1 F.2.1 dX19_box_172 (by decide) ?_
    refine zr_iast (k := 155) (by decide) rfl (by decide) F (zal_a F ha17_0 (j := 25) rfl) hr dX19_box_173 (by unfold vp_in; decide) (fun H locs z208 ez208 hr => ?_)
    replace h := zl_sub ez208 h
    clear ez208
    refine lv_aload_n F.1 F.2.1 dX19_box_174 rfl (lv_at hl 1 rfl) ?_
    refine gf19_307 F ha17_0 hr dX19_box_175 ?_
    refine lv_iload_n F.1 F.2.1 dX19_box_178 rfl (lv_at hl 0 rfl) ?_
    refine lv_iconst (v := (-1 : Int32)) F.1 F.2.1 dX19_box_179 (by decide) ?_
    refine zr_iast (k := 156) (by decide) rfl (by decide) F (zal_a F ha17_0 (j := 26) rfl) hr dX19_box_180 (by unfold vp_in; decide) (fun H locs z210 ez210 hr => ?_)
    replace h := zl_sub ez210 h
    clear ez210
    refine lv_aload_n F.1 F.2.1 dX19_box_181 rfl (lv_at hl 1 rfl) ?_
    refine gf19_304 F ha17_0 hr dX19_box_182 ?_
    refine lv_iload_n F.1 F.2.1 dX19_box_185 rfl (lv_at hl 0 rfl) ?_
    refine lv_iconst (v := (-1 : Int32)) F.1 F.2.1 dX19_box_186 (by decide) ?_
    refine zr_iast (k := 157) (by decide) rfl (by decide) F (zal_a F ha17_0 (j := 27) rfl) hr dX19_box_187 (by unfold vp_in; decide) (fun H locs z212 ez212 hr => ?_)
    replace h := zl_sub ez212 h
    clear ez212
    refine lv_iinc (v := (19 : Int32)) (lv' := [(3, .int (19 : Int32)), (2, .ref (B17 12 n1)), (0, .ref (B17 19 x0)), (1, .int (0 : Int32))]) F.1 F.2.1 dX19_box_188 hl (k := 0) rfl (by decide) (by decide) rfl (fun ls hl => ?_)
    refine lv_goto (tgt := 161) F.1 F.2.1 dX19_box_191 (by decide) ?_
    refine lv_iload_n F.1 F.2.1 dX19_box_161 rfl (lv_at hl 0 rfl) ?_
    refine lv_bipush (v := (24 : Int32)) F.1 F.2.1 dX19_box_162 (by decide) ?_
    refine lv_icmp_ge (tgt := 194) F.1 F.2.1 dX19_box_164 (by decide) (fun hc => absurd hc (by decide)) (fun _ => ?_)
    refine lv_aload_n F.1 F.2.1 dX19_box_167 rfl (lv_at hl 1 rfl) ?_
    refine gf19_301 F ha17_0 hr dX19_box_168 ?_
    refine lv_iload_n F.1 F.2.1 dX19_box_171 rfl (lv_at hl 0 rfl) ?_
    refine lv_iconst (v := (-1 : Int32)) F.1 F.2.1 dX19_box_172 (by decide) ?_
    refine zr_iast (k := 155) (by decide) rfl (by decide) F (zal_a F ha17_0 (j := 25) rfl) hr dX19_box_173 (by unfold vp_in; decide) (fun H locs z214 ez214 hr => ?_)
    replace h := zl_sub ez214 h
    clear ez214
    refine lv_aload_n F.1 F.2.1 dX19_box_174 rfl (lv_at hl 1 rfl) ?_
    refine gf19_307 F ha17_0 hr dX19_box_175 ?_
    refine lv_iload_n F.1 F.2.1 dX19_box_178 rfl (lv_at hl 0 rfl) ?_
    refine lv_iconst (v := (-1 : Int32)) F.1 F.2.1 dX19_box_179 (by decide) ?_
    refine zr_iast (k := 156) (by decide) rfl (by decide) F (zal_a F ha17_0 (j := 26) rfl) hr dX19_box_180 (by unfold vp_in; decide) (fun H locs z216 ez216 hr => ?_)
    replace h := zl_sub ez216 h
    clear ez216
    refine lv_aload_n F.1 F.2.1 dX19_box_181 rfl (lv_at hl 1 rfl) ?_
    refine gf19_304 F ha17_0 hr dX19_box_182 ?_
    refine lv_iload_n F.1 F.2.1 dX19_box_185 rfl (lv_at hl 0 rfl) ?_
    refine lv_iconst (v := (-1 : Int32)) F.1 F.2.1 dX19_box_186 (by decide) ?_
    refine zr_iast (k := 157) (by decide) rfl (by decide) F (zal_a F ha17_0 (j := 27) rfl) hr dX19_box_187 (by unfold vp_in; decide) (fun H locs z218 ez218 hr => ?_)
    replace h := zl_sub ez218 h
    clear ez218
    refine lv_iinc (v := (20 : Int32)) (lv' := [(3, .int (20 : Int32)), (2, .ref (B17 12 n1)), (0, .ref (B17 19 x0)), (1, .int (0 : Int32))]) F.1 F.2.1 dX19_box_188 hl (k := 0) rfl (by decide) (by decide) rfl (fun ls hl => ?_)
    refine lv_goto (tgt := 161) F.1 F.2.1 dX19_box_191 (by decide) ?_
    refine lv_iload_n F.1 F.2.1 dX19_box_161 rfl (lv_at hl 0 rfl) ?_
    refine lv_bipush (v := (24 : Int32)) F.1 F.2.1 dX19_box_162 (by decide) ?_
    refine lv_icmp_ge (tgt := 194) F.1 F.2.1 dX19_box_164 (by decide) (fun hc => absurd hc (by decide)) (fun _ => ?_)
    refine lv_aload_n F.1 F.2.1 dX19_box_167 rfl (lv_at hl 1 rfl) ?_
    refine gf19_301 F ha17_0 hr dX19_box_168 ?_
    refine lv_iload_n F.1 F.2.1 dX19_box_171 rfl (lv_at hl 0 rfl) ?_
    refine lv_iconst (v := (-1 : Int32)) F.1 F.2.1 dX19_box_172 (by decide) ?_
    refine zr_iast (k := 155) (by decide) rfl (by decide) F (zal_a F ha17_0 (j := 25) rfl) hr dX19_box_173 (by unfold vp_in; decide) (fun H locs z220 ez220 hr => ?_)
    replace h := zl_sub ez220 h
    clear ez220
    refine lv_aload_n F.1 F.2.1 dX19_box_174 rfl (lv_at hl 1 rfl) ?_
    refine gf19_307 F ha17_0 hr dX19_box_175 ?_
    refine lv_iload_n F.1 F.2.1 dX19_box_178 rfl (lv_at hl 0 rfl) ?_
    refine lv_iconst (v := (-1 : Int32)) F.1 F.2.1 dX19_box_179 (by decide) ?_
    refine zr_iast (k := 156) (by decide) rfl (by decide) F (zal_a F ha17_0 (j := 26) rfl) hr dX19_box_180 (by unfold vp_in; decide) (fun H locs z222 ez222 hr => ?_)
    replace h := zl_sub ez222 h
    clear ez222
    refine lv_aload_n F.1 F.2.1 dX19_box_181 rfl (lv_at hl 1 rfl) ?_
    refine gf19_304 F ha17_0 hr dX19_box_182 ?_
    refine lv_iload_n F.1 F.2.1 dX19_box_185 rfl (lv_at hl 0 rfl) ?_
    refine lv_iconst (v := (-1 : Int32)) F.1 F.2.1 dX19_box_186 (by decide) ?_
    refine zr_iast (k := 157) (by decide) rfl (by decide) F (zal_a F ha17_0 (j := 27) rfl) hr dX19_box_187 (by unfold vp_in; decide) (fun H locs z224 ez224 hr => ?_)
    replace h := zl_sub ez224 h
    clear ez224
    refine lv_iinc (v := (21 : Int32)) (lv' := [(3, .int (21 : Int32)), (2, .ref (B17 12 n1)), (0, .ref (B17 19 x0)), (1, .int (0 : Int32))]) F.1 F.2.1 dX19_box_188 hl (k := 0) rfl (by decide) (by decide) rfl (fun ls hl => ?_)
    refine lv_goto (tgt := 161) F.1 F.2.1 dX19_box_191 (by decide) ?_
    refine lv_iload_n F.1 F.2.1 dX19_box_161 rfl (lv_at hl 0 rfl) ?_
    refine lv_bipush (v := (24 : Int32)) F.1 F.2.1 dX19_box_162 (by decide) ?_
    refine lv_icmp_ge (tgt := 194) F.1 F.2.1 dX19_box_164 (by decide) (fun hc => absurd hc (by decide)) (fun _ => ?_)
    refine lv_aload_n F.1 F.2.1 dX19_box_167 rfl (lv_at hl 1 rfl) ?_
    refine gf19_301 F ha17_0 hr dX19_box_168 ?_
    refine lv_iload_n F.1 F.2.1 dX19_box_171 rfl (lv_at hl 0 rfl) ?_
    refine lv_iconst (v := (-1 : Int32)) F.1 F.2.1 dX19_box_172 (by decide) ?_
    refine zr_iast (k := 155) (by decide) rfl (by decide) F (zal_a F ha17_0 (j := 25) rfl) hr dX19_box_173 (by unfold vp_in; decide) (fun H locs z226 ez226 hr => ?_)
    replace h := zl_sub ez226 h
    clear ez226
    refine lv_aload_n F.1 F.2.1 dX19_box_174 rfl (lv_at hl 1 rfl) ?_
    refine gf19_307 F ha17_0 hr dX19_box_175 ?_
    refine lv_iload_n F.1 F.2.1 dX19_box_178 rfl (lv_at hl 0 rfl) ?_
    refine lv_iconst (v := (-1 : Int32)) F.1 F.2.1 dX19_box_179 (by decide) ?_
    refine zr_iast (k := 156) (by decide) rfl (by decide) F (zal_a F ha17_0 (j := 26) rfl) hr dX19_box_180 (by unfold vp_in; decide) (fun H locs z228 ez228 hr => ?_)
    replace h := zl_sub ez228 h
    clear ez228
    refine lv_aload_n F.1 F.2.1 dX19_box_181 rfl (lv_at hl 1 rfl) ?_
    refine gf19_304 F ha17_0 hr dX19_box_182 ?_
    refine lv_iload_n F.1 F.2.1 dX19_box_185 rfl (lv_at hl 0 rfl) ?_
    refine lv_iconst (v := (-1 : Int32)) F.1 F.2.1 dX19_box_186 (by decide) ?_
    refine zr_iast (k := 157) (by decide) rfl (by decide) F (zal_a F ha17_0 (j := 27) rfl) hr dX19_box_187 (by unfold vp_in; decide) (fun H locs z230 ez230 hr => ?_)
    replace h := zl_sub ez230 h
    clear ez230
    refine lv_iinc (v := (22 : Int32)) (lv' := [(3, .int (22 : Int32)), (2, .ref (B17 12 n1)), (0, .ref (B17 19 x0)), (1, .int (0 : Int32))]) F.1 F.2.1 dX19_box_188 hl (k := 0) rfl (by decide) (by decide) rfl (fun ls hl => ?_)
    refine lv_goto (tgt := 161) F.1 F.2.1 dX19_box_191 (by decide) ?_
    refine lv_iload_n F.1 F.2.1 dX19_box_161 rfl (lv_at hl 0 rfl) ?_
    refine lv_bipush (v := (24 : Int32)) F.1 F.2.1 dX19_box_162 (by decide) ?_
    refine lv_icmp_ge (tgt := 194) F.1 F.2.1 dX19_box_164 (by decide) (fun hc => absurd hc (by decide)) (fun _ => ?_)
    refine lv_aload_n F.1 F.2.1 dX19_box_167 rfl (lv_at hl 1 rfl) ?_
    refine gf19_301 F ha17_0 hr dX19_box_168 ?_
    refine lv_iload_n F.1 F.2.1 dX19_box_171 rfl (lv_at hl 0 rfl) ?_
    refine lv_iconst (v := (-1 : Int32)) F.1 F.2.1 dX19_box_172 (by decide) ?_
    refine zr_iast (k := 155) (by decide) rfl (by decide) F (zal_a F ha17_0 (j := 25) rfl) hr dX19_box_173 (by unfold vp_in; decide) (fun H locs z232 ez232 hr => ?_)
    replace h := zl_sub ez232 h
    clear ez232
    refine lv_aload_n F.1 F.2.1 dX19_box_174 rfl (lv_at hl 1 rfl) ?_
    refine gf19_307 F ha17_0 hr dX19_box_175 ?_
    refine lv_iload_n F.1 F.2.1 dX19_box_178 rfl (lv_at hl 0 rfl) ?_
    refine lv_iconst (v := (-1 : Int32)) F.1 F.2.1 dX19_box_179 (by decide) ?_
    refine zr_iast (k := 156) (by decide) rfl (by decide) F (zal_a F ha17_0 (j := 26) rfl) hr dX19_box_180 (by unfold vp_in; decide) (fun H locs z234 ez234 hr => ?_)
    replace h := zl_sub ez234 h
    clear ez234
    refine lv_aload_n F.1 F.2.1 dX19_box_181 rfl (lv_at hl 1 rfl) ?_
    refine gf19_304 F ha17_0 hr dX19_box_182 ?_
    refine lv_iload_n F.1 F.2.1 dX19_box_185 rfl (lv_at hl 0 rfl) ?_
    refine lv_iconst (v := (-1 : Int32)) F.1 F.2.1 dX19_box_186 (by decide) ?_
    refine zr_iast (k := 157) (by decide) rfl (by decide) F (zal_a F ha17_0 (j := 27) rfl) hr dX19_box_187 (by unfold vp_in; decide) (fun H locs z236 ez236 hr => ?_)
    replace h := zl_sub ez236 h
    clear ez236
    refine lv_iinc (v := (23 : Int32)) (lv' := [(3, .int (23 : Int32)), (2, .ref (B17 12 n1)), (0, .ref (B17 19 x0)), (1, .int (0 : Int32))]) F.1 F.2.1 dX19_box_188 hl (k := 0) rfl (by decide) (by decide) rfl (fun ls hl => ?_)
    refine lv_goto (tgt := 161) F.1 F.2.1 dX19_box_191 (by decide) ?_
    refine lv_iload_n F.1 F.2.1 dX19_box_161 rfl (lv_at hl 0 rfl) ?_
    refine lv_bipush (v := (24 : Int32)) F.1 F.2.1 dX19_box_162 (by decide) ?_
    refine lv_icmp_ge (tgt := 194) F.1 F.2.1 dX19_box_164 (by decide) (fun hc => absurd hc (by decide)) (fun _ => ?_)
    refine lv_aload_n F.1 F.2.1 dX19_box_167 rfl (lv_at hl 1 rfl) ?_
    refine gf19_301 F ha17_0 hr dX19_box_168 ?_
    refine lv_iload_n F.1 F.2.1 dX19_box_171 rfl (lv_at hl 0 rfl) ?_
    refine lv_iconst (v := (-1 : Int32)) F.1 F.2.1 dX19_box_172 (by decide) ?_
    refine zr_iast (k := 155) (by decide) rfl (by decide) F (zal_a F ha17_0 (j := 25) rfl) hr dX19_box_173 (by unfold vp_in; decide) (fun H locs z238 ez238 hr => ?_)
    replace h := zl_sub ez238 h
    clear ez238
    refine lv_aload_n F.1 F.2.1 dX19_box_174 rfl (lv_at hl 1 rfl) ?_
    refine gf19_307 F ha17_0 hr dX19_box_175 ?_
    refine lv_iload_n F.1 F.2.1 dX19_box_178 rfl (lv_at hl 0 rfl) ?_
    refine lv_iconst (v := (-1 : Int32)) F.1 F.2.1 dX19_box_179 (by decide) ?_
    refine zr_iast (k := 156) (by decide) rfl (by decide) F (zal_a F ha17_0 (j := 26) rfl) hr dX19_box_180 (by unfold vp_in; decide) (fun H locs z240 ez240 hr => ?_)
    replace h := zl_sub ez240 h
    clear ez240
    refine lv_aload_n F.1 F.2.1 dX19_box_181 rfl (lv_at hl 1 rfl) ?_
    refine gf19_304 F ha17_0 hr dX19_box_182 ?_
    refine lv_iload_n F.1 F.2.1 dX19_box_185 rfl (lv_at hl 0 rfl) ?_
    refine lv_iconst (v := (-1 : Int32)) F.1 F.2.1 dX19_box_186 (by decide) ?_
    refine zr_iast (k := 157) (by decide) rfl (by decide) F (zal_a F ha17_0 (j := 27) rfl) hr dX19_box_187 (by unfold vp_in; decide) (fun H locs z242 ez242 hr => ?_)
    replace h := zl_sub ez242 h
    clear ez242
    refine lv_iinc (v := (24 : Int32)) (lv' := [(3, .int (24 : Int32)), (2, .ref (B17 12 n1)), (0, .ref (B17 19 x0)), (1, .int (0 : Int32))]) F.1 F.2.1 dX19_box_188 hl (k := 0) rfl (by decide) (by decide) rfl (fun ls hl => ?_)
    refine lv_goto (tgt := 161) F.1 F.2.1 dX19_box_191 (by decide) ?_
    refine lv_iload_n F.1 F.2.1 dX19_box_161 rfl (lv_at hl 0 rfl) ?_
    refine lv_bipush (v := (24 : Int32)) F.1 F.2.1 dX19_box_162 (by decide) ?_
    refine lv_icmp_ge (tgt := 194) F.1 F.2.1 dX19_box_164 (by decide) (fun _ => ?_) (fun hc => absurd (by decide) hc)
    refine lv_aload_n F.1 F.2.1 dX19_box_194 rfl (lv_at hl 2 rfl) ?_
    refine gf19_114 F ha17_1 hr dX19_box_195 ?_
    refine lv_aload_n F.1 F.2.1 dX19_box_198 rfl (lv_at hl 2 rfl) ?_
    refine gf19_831 F ha17_1 hr dX19_box_199 ?_
    refine lv_aload_n F.1 F.2.1 dX19_box_202 rfl (lv_at hl 1 rfl) ?_
    replace h := zk_some h
    obtain ⟨c243, h⟩ := h
    refine zr_aast (k := 186) (v := (some n1)) (T := TX12) (N := 30) (by decide) rfl (by decide) rfl rfl F (zal_a F ha17_1 (j := 18) rfl) hr dX19_box_203 (by rw [zlen_d (by decide)]; exact c243) (zal_s ha17_0) (fun H locs z244 ez244 hr => ?_)
    replace h := zl_sub ez244 h
    clear ez244
    refine lv_aload_n F.1 F.2.1 dX19_box_204 rfl (lv_at hl 2 rfl) ?_
    refine lv_dup F.1 F.2.1 dX19_box_205 rfl ?_
    refine gf19_831 F ha17_1 hr dX19_box_206 ?_
    refine lv_iconst (v := (1 : Int32)) F.1 F.2.1 dX19_box_209 (by decide) ?_
    refine lv_iadd F.1 F.2.1 dX19_box_210 ?_
    refine pf19_831 F ha17_1 hr dX19_box_211 ((zgI z244 19 19 x0) + (1 : Int32)) (fun H locs z245 ez245 hr => ?_)
    replace h := zl_sub ez245 h
    clear ez245
    refine lv_aload_n F.1 F.2.1 dX19_box_214 rfl (lv_at hl 2 rfl) ?_
    replace h := zc_some h
    obtain ⟨r246, z247, hc248, h⟩ := h
    refine zr_callv (zrun_V (As := []) (rest := []) zq_2394 zq_2396 zs_X19_stir zq_2397 zq_4 hdX19_stir (by decide) (T := TX19) (N := 32) rfl (okX19_stir l D cy B17 I17 hst N x0 ha17_1 hr.2.2 hc248) F hr ha17_1 hl.1 rfl (by decide) dX19_box_215 rfl rfl (hroX19_box_0_X19_stir RC RS) ⟨Nat.le_trans (Nat.le_of_ble_eq_true rfl) hca17, Nat.le_trans (Nat.le_of_ble_eq_true rfl) hcb17⟩) F hA hr (fun H locs hw249 hr => ?_)
    clear hc248
    refine lv_aload_n F.1 F.2.1 dX19_box_218 rfl (lv_at hl 1 rfl) ?_
    refine gf19_310 F ha17_0 hr dX19_box_219 ?_
    obtain ⟨rfl, rfl, rfl⟩ := zret3 h
    exact zme_i F hx hst h9 hret hlocks dX19_box_222 hr (Nat.le_trans (Nat.le_of_ble_eq_true rfl) hca17) (Nat.le_trans (Nat.le_of_ble_eq_true rfl) hcb17)
  · replace h := zi_f c3 h
    refine lv_iconst (v := (0 : Int32)) F.1 F.2.1 dX19_box_25 (by decide) ?_
    obtain ⟨rfl, rfl, rfl⟩ := zret3 h
    exact zme_i F hx hst h9 hret hlocks dX19_box_26 hr (Nat.zero_le _) (Nat.zero_le _)
noncomputable def fX19_box_0 (N RC RS : Nat) (x0 : Nat) (ids : List (Nat × Nat)) (z : St) : Option (Int32 × St × List (Nat × Nat)) := if ¬ (zgI z 19 19 x0) = (16 : Int32) then (fX19_box_0_15 N RC RS x0 x0 (0 : Int32) ids z) else (fX19_box_0_15 N RC RS x0 x0 (1 : Int32) ids z)
set_option maxHeartbeats 16000000 in
set_option maxRecDepth 100000 in
theorem bX19_box_0_0 (hst : zSt B ids) (h9 : zI9 ids) {N RC RS : Nat} (F : zFx p m c cX19_box 4 s args RX19 D cy B ids A) (hA : ∀ q : Nat, s.heap.size ≤ q → A q) (hret : meth.sig.returnType = (some .int)) (hlocks : meth.locks = false) (hAO : zAO s) (x0 : Nat) (hx0 : (19, x0) ∈ ids) {r : Int32} {z' : St} {I' : List (Nat × Nat)} {z : St} {H : Heap} {locs : List Loc} {ls : Array Slot} (hr : zRep D cy B ids A s.heap z H locs) (hl : lv_has ls 4 [(0, .ref (B 19 x0)), (1, .int (0 : Int32))]) (h : fX19_box_0 N RC RS x0 ids z = some (r, z', I')) : W p l e (rmX19_box_0 RC RS) s m args below meth c H locs 0 0 (MQ below (zQm D cy (some (.int r)) z' I' B ids A) args s RC RS A) (F0 m 0 ls []) := by
  unfold fX19_box_0 at h
  have hx := zExt_rf B ids
  refine lv_aload_n F.1 F.2.1 dX19_box_0 rfl (lv_at hl 0 rfl) ?_
  refine lv_aload_n F.1 F.2.1 dX19_box_1 rfl (lv_at hl 0 rfl) ?_
  refine gf19_831 F hx0 hr dX19_box_2 ?_
  refine lv_bipush (v := (16 : Int32)) F.1 F.2.1 dX19_box_5 (by decide) ?_
  refine lv_icmp_ne (tgt := 14) F.1 F.2.1 dX19_box_7 (by decide) (fun c1 => ?_) (fun c1 => ?_)
  · replace h := zi_t c1 h
    refine lv_iconst (v := (0 : Int32)) F.1 F.2.1 dX19_box_14 (by decide) ?_
    exact bX19_box_0_15 hst h9 F hA hret hlocks hAO x0 x0 (0 : Int32) hx0 hx0 hr (lv_sub hl [0, 1] rfl) h
  · replace h := zi_f (fun q => q c1) h
    refine lv_iconst (v := (1 : Int32)) F.1 F.2.1 dX19_box_10 (by decide) ?_
    refine lv_goto (tgt := 15) F.1 F.2.1 dX19_box_11 (by decide) ?_
    exact bX19_box_0_15 hst h9 F hA hret hlocks hAO x0 x0 (1 : Int32) hx0 hx0 hr (lv_sub hl [0, 1] rfl) h
end SX19_box_0
set_option maxRecDepth 100000 in
theorem okX19_box_0 (l : Launch) (D : va_G) (cy : Nat → ClassId) (B : Nat → Nat → Nat) (ids : List (Nat × Nat)) (hst : zSt B ids) (h9 : zI9 ids) (N RC RS : Nat) (x0 : Nat) (hx0 : (19, x0) ∈ ids) {z : St} {r : Int32} {z' : St} {I' : List (Nat × Nat)} (hW : zWf ids z) (h : fX19_box_0 N RC RS x0 ids z = some (r, z', I')) : zMm l yX19_box (zws yX19_box cX19_box 4 (some .int)) (rmX19_box_0 RC RS) D cy B ids [.ref (B 19 x0), .int (0 : Int32)] (some (.int r)) z z' I' :=
  zMm_of hst hW (by decide +kernel) (Nat.le_of_ble_eq_true rfl) (fun p e s m args below meth c A ls F hA hret hlocks hAO hr hl => bX19_box_0_0 hst h9 F hA hret hlocks hAO x0 hx0 hr hl h)
abbrev rmX19_box_1 (RC RS : Nat) : Room := { frames := 2, cells := RC, slots := RS, locals := 32 }
theorem hroX19_box_1_X19_stir (RC RS : Nat) : rmX19_stir.frames + 1 ≤ (rmX19_box_1 RC RS).frames ∧ 8 + (1 + 11) + rmX19_stir.locals ≤ (rmX19_box_1 RC RS).locals := ⟨Nat.le_of_ble_eq_true rfl, Nat.le_of_ble_eq_true rfl⟩
section SX19_box_1
variable {p : Program} {l : Launch} {e : Env} {s : State} {m : MethodId} {args : Array Value} {below : List Frame} {meth : Method} {c : Code} {D : va_G} {cy : Nat → ClassId} {B : Nat → Nat → Nat} {ids : List (Nat × Nat)} {A : Nat → Prop}
noncomputable def fX19_box_1_15 (N RC RS : Nat) (x0 : Nat) (s0 : Nat) (s1 : Int32) (ids : List (Nat × Nat)) (z : St) : Option (Int32 × St × List (Nat × Nat)) := zl (zsI z 19 25 s0 s1) fun z2 => if (zgI z2 19 25 x0) ≤ 0 then (zl (Int32.toNatClampNeg (zgI z2 19 19 x0)) fun n1 => zqc (zfr (znmX12 n1) ids ∧ 13 ≤ RC ∧ 358 ≤ RS) <| zl (zmg (znmX12 n1) (zmwX12 n1 ) z2) fun z4 => zl (ids ++ znmX12 n1) fun I1 => zl (zsI z4 12 0 n1 (zgI z4 19 19 x0)) fun z5 => zl (zsI z5 12 1 n1 (1 : Int32)) fun z6 => zl (4 * n1 + 0) fun n2 => zqc (zfr (znmX17 n2) I1 ∧ 15 ≤ RC ∧ 557 ≤ RS) <| zl (zmg (znmX17 n2) (zmwX17 n2 ) z6) fun z7 => zl (I1 ++ znmX17 n2) fun I2 => zl (zsQ z7 148 n1 (Int32.toNatClampNeg (0 : Int32)) (some n2)) fun z9 => zl (4 * n1 + 1) fun n3 => zqc (zfr (znmX17 n3) I2 ∧ 17 ≤ RC ∧ 756 ≤ RS) <| zl (zmg (znmX17 n3) (zmwX17 n3 ) z9) fun z10 => zl (I2 ++ znmX17 n3) fun I3 => zl (zsQ z10 148 n1 (Int32.toNatClampNeg (1 : Int32)) (some n3)) fun z12 => zl (4 * n1 + 2) fun n4 => zqc (zfr (znmX17 n4) I3 ∧ 19 ≤ RC ∧ 955 ≤ RS) <| zl (zmg (znmX17 n4) (zmwX17 n4 ) z12) fun z13 => zl (I3 ++ znmX17 n4) fun I4 => zl (zsQ z13 148 n1 (Int32.toNatClampNeg (2 : Int32)) (some n4)) fun z15 => zl (4 * n1 + 3) fun n5 => zqc (zfr (znmX17 n5) I4 ∧ 21 ≤ RC ∧ 1154 ≤ RS) <| zl (zmg (znmX17 n5) (zmwX17 n5 ) z15) fun z16 => zl (I4 ++ znmX17 n5) fun I5 => zl (zsQ z16 148 n1 (Int32.toNatClampNeg (3 : Int32)) (some n5)) fun z18 => zl (zsA z18 150 n1 (Int32.toNatClampNeg (0 : Int32)) (-1 : Int32)) fun z20 => zl (16 * n1 + 0) fun n6 => zqc (zfr (znmX15 n6) I5 ∧ 24 ≤ RC ∧ 1192 ≤ RS) <| zl (zmg (znmX15 n6) (zmwX15 n6 ) z20) fun z21 => zl (I5 ++ znmX15 n6) fun I6 => zl (zsQ z21 149 n1 (Int32.toNatClampNeg (0 : Int32)) (some n6)) fun z23 => zl (zsA z23 150 n1 (Int32.toNatClampNeg (1 : Int32)) (-1 : Int32)) fun z25 => zl (16 * n1 + 1) fun n7 => zqc (zfr (znmX15 n7) I6 ∧ 27 ≤ RC ∧ 1230 ≤ RS) <| zl (zmg (znmX15 n7) (zmwX15 n7 ) z25) fun z26 => zl (I6 ++ znmX15 n7) fun I7 => zl (zsQ z26 149 n1 (Int32.toNatClampNeg (1 : Int32)) (some n7)) fun z28 => zl (zsA z28 150 n1 (Int32.toNatClampNeg (2 : Int32)) (-1 : Int32)) fun z30 => zl (16 * n1 + 2) fun n8 => zqc (zfr (znmX15 n8) I7 ∧ 30 ≤ RC ∧ 1268 ≤ RS) <| zl (zmg (znmX15 n8) (zmwX15 n8 ) z30) fun z31 => zl (I7 ++ znmX15 n8) fun I8 => zl (zsQ z31 149 n1 (Int32.toNatClampNeg (2 : Int32)) (some n8)) fun z33 => zl (zsA z33 150 n1 (Int32.toNatClampNeg (3 : Int32)) (-1 : Int32)) fun z35 => zl (16 * n1 + 3) fun n9 => zqc (zfr (znmX15 n9) I8 ∧ 33 ≤ RC ∧ 1306 ≤ RS) <| zl (zmg (znmX15 n9) (zmwX15 n9 ) z35) fun z36 => zl (I8 ++ znmX15 n9) fun I9 => zl (zsQ z36 149 n1 (Int32.toNatClampNeg (3 : Int32)) (some n9)) fun z38 => zl (zsA z38 150 n1 (Int32.toNatClampNeg (4 : Int32)) (-1 : Int32)) fun z40 => zl (16 * n1 + 4) fun n10 => zqc (zfr (znmX15 n10) I9 ∧ 36 ≤ RC ∧ 1344 ≤ RS) <| zl (zmg (znmX15 n10) (zmwX15 n10 ) z40) fun z41 => zl (I9 ++ znmX15 n10) fun I10 => zl (zsQ z41 149 n1 (Int32.toNatClampNeg (4 : Int32)) (some n10)) fun z43 => zl (zsA z43 150 n1 (Int32.toNatClampNeg (5 : Int32)) (-1 : Int32)) fun z45 => zl (16 * n1 + 5) fun n11 => zqc (zfr (znmX15 n11) I10 ∧ 39 ≤ RC ∧ 1382 ≤ RS) <| zl (zmg (znmX15 n11) (zmwX15 n11 ) z45) fun z46 => zl (I10 ++ znmX15 n11) fun I11 => zl (zsQ z46 149 n1 (Int32.toNatClampNeg (5 : Int32)) (some n11)) fun z48 => zl (zsA z48 150 n1 (Int32.toNatClampNeg (6 : Int32)) (-1 : Int32)) fun z50 => zl (16 * n1 + 6) fun n12 => zqc (zfr (znmX15 n12) I11 ∧ 42 ≤ RC ∧ 1420 ≤ RS) <| zl (zmg (znmX15 n12) (zmwX15 n12 ) z50) fun z51 => zl (I11 ++ znmX15 n12) fun I12 => zl (zsQ z51 149 n1 (Int32.toNatClampNeg (6 : Int32)) (some n12)) fun z53 => zl (zsA z53 150 n1 (Int32.toNatClampNeg (7 : Int32)) (-1 : Int32)) fun z55 => zl (16 * n1 + 7) fun n13 => zqc (zfr (znmX15 n13) I12 ∧ 45 ≤ RC ∧ 1458 ≤ RS) <| zl (zmg (znmX15 n13) (zmwX15 n13 ) z55) fun z56 => zl (I12 ++ znmX15 n13) fun I13 => zl (zsQ z56 149 n1 (Int32.toNatClampNeg (7 : Int32)) (some n13)) fun z58 => zl (zsA z58 150 n1 (Int32.toNatClampNeg (8 : Int32)) (-1 : Int32)) fun z60 => zl (16 * n1 + 8) fun n14 => zqc (zfr (znmX15 n14) I13 ∧ 48 ≤ RC ∧ 1496 ≤ RS) <| zl (zmg (znmX15 n14) (zmwX15 n14 ) z60) fun z61 => zl (I13 ++ znmX15 n14) fun I14 => zl (zsQ z61 149 n1 (Int32.toNatClampNeg (8 : Int32)) (some n14)) fun z63 => zl (zsA z63 150 n1 (Int32.toNatClampNeg (9 : Int32)) (-1 : Int32)) fun z65 => zl (16 * n1 + 9) fun n15 => zqc (zfr (znmX15 n15) I14 ∧ 51 ≤ RC ∧ 1534 ≤ RS) <| zl (zmg (znmX15 n15) (zmwX15 n15 ) z65) fun z66 => zl (I14 ++ znmX15 n15) fun I15 => zl (zsQ z66 149 n1 (Int32.toNatClampNeg (9 : Int32)) (some n15)) fun z68 => zl (zsA z68 150 n1 (Int32.toNatClampNeg (10 : Int32)) (-1 : Int32)) fun z70 => zl (16 * n1 + 10) fun n16 => zqc (zfr (znmX15 n16) I15 ∧ 54 ≤ RC ∧ 1572 ≤ RS) <| zl (zmg (znmX15 n16) (zmwX15 n16 ) z70) fun z71 => zl (I15 ++ znmX15 n16) fun I16 => zl (zsQ z71 149 n1 (Int32.toNatClampNeg (10 : Int32)) (some n16)) fun z73 => zl (zsA z73 150 n1 (Int32.toNatClampNeg (11 : Int32)) (-1 : Int32)) fun z75 => zl (16 * n1 + 11) fun n17 => zqc (zfr (znmX15 n17) I16 ∧ 57 ≤ RC ∧ 1610 ≤ RS) <| zl (zmg (znmX15 n17) (zmwX15 n17 ) z75) fun z76 => zl (I16 ++ znmX15 n17) fun I17 => zl (zsQ z76 149 n1 (Int32.toNatClampNeg (11 : Int32)) (some n17)) fun z78 => zl (zsA z78 150 n1 (Int32.toNatClampNeg (12 : Int32)) (-1 : Int32)) fun z80 => zl (16 * n1 + 12) fun n18 => zqc (zfr (znmX15 n18) I17 ∧ 60 ≤ RC ∧ 1648 ≤ RS) <| zl (zmg (znmX15 n18) (zmwX15 n18 ) z80) fun z81 => zl (I17 ++ znmX15 n18) fun I18 => zl (zsQ z81 149 n1 (Int32.toNatClampNeg (12 : Int32)) (some n18)) fun z83 => zl (zsA z83 150 n1 (Int32.toNatClampNeg (13 : Int32)) (-1 : Int32)) fun z85 => zl (16 * n1 + 13) fun n19 => zqc (zfr (znmX15 n19) I18 ∧ 63 ≤ RC ∧ 1686 ≤ RS) <| zl (zmg (znmX15 n19) (zmwX15 n19 ) z85) fun z86 => zl (I18 ++ znmX15 n19) fun I19 => zl (zsQ z86 149 n1 (Int32.toNatClampNeg (13 : Int32)) (some n19)) fun z88 => zl (zsA z88 150 n1 (Int32.toNatClampNeg (14 : Int32)) (-1 : Int32)) fun z90 => zl (16 * n1 + 14) fun n20 => zqc (zfr (znmX15 n20) I19 ∧ 66 ≤ RC ∧ 1724 ≤ RS) <| zl (zmg (znmX15 n20) (zmwX15 n20 ) z90) fun z91 => zl (I19 ++ znmX15 n20) fun I20 => zl (zsQ z91 149 n1 (Int32.toNatClampNeg (14 : Int32)) (some n20)) fun z93 => zl (zsA z93 150 n1 (Int32.toNatClampNeg (15 : Int32)) (-1 : Int32)) fun z95 => zl (16 * n1 + 15) fun n21 => zqc (zfr (znmX15 n21) I20 ∧ 69 ≤ RC ∧ 1762 ≤ RS) <| zl (zmg (znmX15 n21) (zmwX15 n21 ) z95) fun z96 => zl (I20 ++ znmX15 n21) fun I21 => zl (zsQ z96 149 n1 (Int32.toNatClampNeg (15 : Int32)) (some n21)) fun z98 => zl (zsA z98 155 n1 (Int32.toNatClampNeg (0 : Int32)) (-1 : Int32)) fun z100 => zl (zsA z100 156 n1 (Int32.toNatClampNeg (0 : Int32)) (-1 : Int32)) fun z102 => zl (zsA z102 157 n1 (Int32.toNatClampNeg (0 : Int32)) (-1 : Int32)) fun z104 => zl (zsA z104 155 n1 (Int32.toNatClampNeg (1 : Int32)) (-1 : Int32)) fun z106 => zl (zsA z106 156 n1 (Int32.toNatClampNeg (1 : Int32)) (-1 : Int32)) fun z108 => zl (zsA z108 157 n1 (Int32.toNatClampNeg (1 : Int32)) (-1 : Int32)) fun z110 => zl (zsA z110 155 n1 (Int32.toNatClampNeg (2 : Int32)) (-1 : Int32)) fun z112 => zl (zsA z112 156 n1 (Int32.toNatClampNeg (2 : Int32)) (-1 : Int32)) fun z114 => zl (zsA z114 157 n1 (Int32.toNatClampNeg (2 : Int32)) (-1 : Int32)) fun z116 => zl (zsA z116 155 n1 (Int32.toNatClampNeg (3 : Int32)) (-1 : Int32)) fun z118 => zl (zsA z118 156 n1 (Int32.toNatClampNeg (3 : Int32)) (-1 : Int32)) fun z120 => zl (zsA z120 157 n1 (Int32.toNatClampNeg (3 : Int32)) (-1 : Int32)) fun z122 => zl (zsA z122 155 n1 (Int32.toNatClampNeg (4 : Int32)) (-1 : Int32)) fun z124 => zl (zsA z124 156 n1 (Int32.toNatClampNeg (4 : Int32)) (-1 : Int32)) fun z126 => zl (zsA z126 157 n1 (Int32.toNatClampNeg (4 : Int32)) (-1 : Int32)) fun z128 => zl (zsA z128 155 n1 (Int32.toNatClampNeg (5 : Int32)) (-1 : Int32)) fun z130 => zl (zsA z130 156 n1 (Int32.toNatClampNeg (5 : Int32)) (-1 : Int32)) fun z132 => zl (zsA z132 157 n1 (Int32.toNatClampNeg (5 : Int32)) (-1 : Int32)) fun z134 => zl (zsA z134 155 n1 (Int32.toNatClampNeg (6 : Int32)) (-1 : Int32)) fun z136 => zl (zsA z136 156 n1 (Int32.toNatClampNeg (6 : Int32)) (-1 : Int32)) fun z138 => zl (zsA z138 157 n1 (Int32.toNatClampNeg (6 : Int32)) (-1 : Int32)) fun z140 => zl (zsA z140 155 n1 (Int32.toNatClampNeg (7 : Int32)) (-1 : Int32)) fun z142 => zl (zsA z142 156 n1 (Int32.toNatClampNeg (7 : Int32)) (-1 : Int32)) fun z144 => zl (zsA z144 157 n1 (Int32.toNatClampNeg (7 : Int32)) (-1 : Int32)) fun z146 => zl (zsA z146 155 n1 (Int32.toNatClampNeg (8 : Int32)) (-1 : Int32)) fun z148 => zl (zsA z148 156 n1 (Int32.toNatClampNeg (8 : Int32)) (-1 : Int32)) fun z150 => zl (zsA z150 157 n1 (Int32.toNatClampNeg (8 : Int32)) (-1 : Int32)) fun z152 => zl (zsA z152 155 n1 (Int32.toNatClampNeg (9 : Int32)) (-1 : Int32)) fun z154 => zl (zsA z154 156 n1 (Int32.toNatClampNeg (9 : Int32)) (-1 : Int32)) fun z156 => zl (zsA z156 157 n1 (Int32.toNatClampNeg (9 : Int32)) (-1 : Int32)) fun z158 => zl (zsA z158 155 n1 (Int32.toNatClampNeg (10 : Int32)) (-1 : Int32)) fun z160 => zl (zsA z160 156 n1 (Int32.toNatClampNeg (10 : Int32)) (-1 : Int32)) fun z162 => zl (zsA z162 157 n1 (Int32.toNatClampNeg (10 : Int32)) (-1 : Int32)) fun z164 => zl (zsA z164 155 n1 (Int32.toNatClampNeg (11 : Int32)) (-1 : Int32)) fun z166 => zl (zsA z166 156 n1 (Int32.toNatClampNeg (11 : Int32)) (-1 : Int32)) fun z168 => zl (zsA z168 157 n1 (Int32.toNatClampNeg (11 : Int32)) (-1 : Int32)) fun z170 => zl (zsA z170 155 n1 (Int32.toNatClampNeg (12 : Int32)) (-1 : Int32)) fun z172 => zl (zsA z172 156 n1 (Int32.toNatClampNeg (12 : Int32)) (-1 : Int32)) fun z174 => zl (zsA z174 157 n1 (Int32.toNatClampNeg (12 : Int32)) (-1 : Int32)) fun z176 => zl (zsA z176 155 n1 (Int32.toNatClampNeg (13 : Int32)) (-1 : Int32)) fun z178 => zl (zsA z178 156 n1 (Int32.toNatClampNeg (13 : Int32)) (-1 : Int32)) fun z180 => zl (zsA z180 157 n1 (Int32.toNatClampNeg (13 : Int32)) (-1 : Int32)) fun z182 => zl (zsA z182 155 n1 (Int32.toNatClampNeg (14 : Int32)) (-1 : Int32)) fun z184 => zl (zsA z184 156 n1 (Int32.toNatClampNeg (14 : Int32)) (-1 : Int32)) fun z186 => zl (zsA z186 157 n1 (Int32.toNatClampNeg (14 : Int32)) (-1 : Int32)) fun z188 => zl (zsA z188 155 n1 (Int32.toNatClampNeg (15 : Int32)) (-1 : Int32)) fun z190 => zl (zsA z190 156 n1 (Int32.toNatClampNeg (15 : Int32)) (-1 : Int32)) fun z192 => zl (zsA z192 157 n1 (Int32.toNatClampNeg (15 : Int32)) (-1 : Int32)) fun z194 => zl (zsA z194 155 n1 (Int32.toNatClampNeg (16 : Int32)) (-1 : Int32)) fun z196 => zl (zsA z196 156 n1 (Int32.toNatClampNeg (16 : Int32)) (-1 : Int32)) fun z198 => zl (zsA z198 157 n1 (Int32.toNatClampNeg (16 : Int32)) (-1 : Int32)) fun z200 => zl (zsA z200 155 n1 (Int32.toNatClampNeg (17 : Int32)) (-1 : Int32)) fun z202 => zl (zsA z202 156 n1 (Int32.toNatClampNeg (17 : Int32)) (-1 : Int32)) fun z204 => zl (zsA z204 157 n1 (Int32.toNatClampNeg (17 : Int32)) (-1 : Int32)) fun z206 => zl (zsA z206 155 n1 (Int32.toNatClampNeg (18 : Int32)) (-1 : Int32)) fun z208 => zl (zsA z208 156 n1 (Int32.toNatClampNeg (18 : Int32)) (-1 : Int32)) fun z210 => zl (zsA z210 157 n1 (Int32.toNatClampNeg (18 : Int32)) (-1 : Int32)) fun z212 => zl (zsA z212 155 n1 (Int32.toNatClampNeg (19 : Int32)) (-1 : Int32)) fun z214 => zl (zsA z214 156 n1 (Int32.toNatClampNeg (19 : Int32)) (-1 : Int32)) fun z216 => zl (zsA z216 157 n1 (Int32.toNatClampNeg (19 : Int32)) (-1 : Int32)) fun z218 => zl (zsA z218 155 n1 (Int32.toNatClampNeg (20 : Int32)) (-1 : Int32)) fun z220 => zl (zsA z220 156 n1 (Int32.toNatClampNeg (20 : Int32)) (-1 : Int32)) fun z222 => zl (zsA z222 157 n1 (Int32.toNatClampNeg (20 : Int32)) (-1 : Int32)) fun z224 => zl (zsA z224 155 n1 (Int32.toNatClampNeg (21 : Int32)) (-1 : Int32)) fun z226 => zl (zsA z226 156 n1 (Int32.toNatClampNeg (21 : Int32)) (-1 : Int32)) fun z228 => zl (zsA z228 157 n1 (Int32.toNatClampNeg (21 : Int32)) (-1 : Int32)) fun z230 => zl (zsA z230 155 n1 (Int32.toNatClampNeg (22 : Int32)) (-1 : Int32)) fun z232 => zl (zsA z232 156 n1 (Int32.toNatClampNeg (22 : Int32)) (-1 : Int32)) fun z234 => zl (zsA z234 157 n1 (Int32.toNatClampNeg (22 : Int32)) (-1 : Int32)) fun z236 => zl (zsA z236 155 n1 (Int32.toNatClampNeg (23 : Int32)) (-1 : Int32)) fun z238 => zl (zsA z238 156 n1 (Int32.toNatClampNeg (23 : Int32)) (-1 : Int32)) fun z240 => zl (zsA z240 157 n1 (Int32.toNatClampNeg (23 : Int32)) (-1 : Int32)) fun z242 => zk (zgI z242 19 19 x0) 16 <| zl (zsQ z242 186 x0 (Int32.toNatClampNeg (zgI z242 19 19 x0)) (some n1)) fun z244 => zl (zsI z244 19 19 x0 ((zgI z244 19 19 x0) + (1 : Int32))) fun z245 => zc (fX19_stir N x0 z245) fun _ z247 => some ((zgI z247 12 0 n1), z247, I21)) else (some ((0 : Int32), z2, ids))
set_option maxHeartbeats 16000000 in
set_option maxRecDepth 100000 in
theorem bX19_box_1_15 (hst : zSt B ids) (h9 : zI9 ids) {N RC RS : Nat} (F : zFx p m c cX19_box 4 s args RX19 D cy B ids A) (hA : ∀ q : Nat, s.heap.size ≤ q → A q) (hret : meth.sig.returnType = (some .int)) (hlocks : meth.locks = false) (hAO : zAO s) (x0 : Nat) (s0 : Nat) (s1 : Int32) (hx0 : (19, x0) ∈ ids) (hs0 : (19, s0) ∈ ids) {r : Int32} {z' : St} {I' : List (Nat × Nat)} {z : St} {H : Heap} {locs : List Loc} {ls : Array Slot} (hr : zRep D cy B ids A s.heap z H locs) (hl : lv_has ls 4 [(0, .ref (B 19 x0)), (1, .int (1 : Int32))]) (h : fX19_box_1_15 N RC RS x0 s0 s1 ids z = some (r, z', I')) : W p l e (rmX19_box_1 RC RS) s m args below meth c H locs 0 0 (MQ below (zQm D cy (some (.int r)) z' I' B ids A) args s RC RS A) (F0 m 15 ls [.int s1, .ref (B 19 s0)]) := by
  unfold fX19_box_1_15 at h
  have hx := zExt_rf B ids
  refine pf19_140 F hs0 hr dX19_box_15 s1 (fun H locs z2 ez2 hr => ?_)
  replace h := zl_sub ez2 h
  clear ez2
  refine lv_aload_n F.1 F.2.1 dX19_box_18 rfl (lv_at hl 0 rfl) ?_
  refine gf19_140 F hx0 hr dX19_box_19 ?_
  refine lv_if_le (tgt := 27) F.1 F.2.1 dX19_box_22 (by decide) (fun c3 => ?_) (fun c3 => ?_)
  · replace h := zi_t c3 h
    obtain ⟨n1, en1⟩ : ∃ y : Nat, y = Int32.toNatClampNeg (zgI z2 19 19 x0) := ⟨_, rfl⟩
    replace h := zl_sub en1 h
    replace h := zqc_some h
    obtain ⟨⟨hfr1, hca1, hcb1⟩, h⟩ := h
    refine zc_new (k := 12) (T := TX12) (N := 30) (fs := [.int 0, .int 0, .null, .int 0, .int 0, .int 0, .int 0, .int 0, .int 0, .int 0, .null, .int 0, .null, .int 0, .null, .null, .int 0, .int 0, .int 0, .null, .null, .null, .int 0, .int 0, .int 0, .null, .null, .null, .null, .int 0]) tyX12 tyX12_ok rfl inX12 zq_1881 zq_1990 zq_17 (zFx_k F hA) (zRC_of F hr) (by decide +kernel) (Nat.le_trans (Nat.le_of_ble_eq_true rfl) hca1) (Nat.le_trans (Nat.le_of_ble_eq_true rfl) hcb1) dX19_box_27 (fun q H hq => ?_)
    have hr := zRC_rep hq
    refine lv_dup F.1 F.2.1 dX19_box_30 rfl ?_
    refine zK_callN (cs := []) (As := []) (rest := [.ref q]) hAO zn_1991 rfl zq_1992 zq_1993 zq_17 hdX12_init (okX12_init l D cy q ) (zFx_k F hA) hq hl.1 rfl (Nat.le_of_ble_eq_true rfl) dX19_box_31 ⟨Nat.le_of_ble_eq_true rfl, Nat.le_of_ble_eq_true rfl⟩ ⟨Nat.le_trans (Nat.le_of_ble_eq_true rfl) hca1, Nat.le_trans (Nat.le_of_ble_eq_true rfl) hcb1⟩ (fun H locs cs1 hp hq => ?_)
    obtain ⟨w1, w2, w3, w4, w5, w6, w7, w8, w9, w10, w11, w12, rfl⟩ := hp
    obtain ⟨B1, hB1, eo1, hst, hD1, h9, hr⟩ := zmkX12 hst h9 n1  hfr1 hq
    clear hq
    generalize eI1 : ids ++ znmX12 n1 = I1 at hst hD1 h9 hr
    have F0 := F
    have F := zFx_nx F hst hD1
    have hi1 : ∀ k o, (k, o) ∈ ids → (k, o) ∈ I1 := fun k o h => eI1 ▸ List.mem_append_left _ h
    have hn1 : (12, n1) ∈ I1 := eI1 ▸ List.mem_append_right _ (List.mem_of_getElem? (l := znmX12 n1) (i := 0) rfl)
    have hx := zExt_nx hx hB1 hi1
    obtain ⟨z4, ez4⟩ : ∃ y, y = zmg (znmX12 n1) (zmwX12 n1 ) z2 := ⟨_, rfl⟩
    rw [← ez4] at hr
    replace h := zl_sub ez4 h
    clear ez4
    replace h := zl_sub eI1.symm h
    have ha1_0 : (19, x0) ∈ I1 := hi1 _ _ hx0
    replace hl : lv_has ls 4 [(0, .ref (B1 19 x0)), (1, .int (1 : Int32))] := by
            rw [hB1 19 x0 hx0]; exact hl
    subst eo1
    refine lv_astore_n (lv' := [(2, .ref (B1 12 n1)), (0, .ref (B1 19 x0)), (1, .int (1 : Int32))]) F.1 F.2.1 dX19_box_34 rfl hl (by decide) rfl (fun ls hl => ?_)
    refine lv_aload_n F.1 F.2.1 dX19_box_35 rfl (lv_at hl 0 rfl) ?_
    refine lv_aload_n F.1 F.2.1 dX19_box_36 rfl (lv_at hl 1 rfl) ?_
    refine gf19_831 F ha1_0 hr dX19_box_37 ?_
    refine pf19_310 F hn1 hr dX19_box_40 (zgI z4 19 19 x0) (fun H locs z5 ez5 hr => ?_)
    replace h := zl_sub ez5 h
    clear ez5
    refine lv_aload_n F.1 F.2.1 dX19_box_43 rfl (lv_at hl 0 rfl) ?_
    refine lv_iload_n F.1 F.2.1 dX19_box_44 rfl (lv_at hl 2 rfl) ?_
    refine pf19_298 F hn1 hr dX19_box_45 (1 : Int32) (by decide) (fun H locs z6 ez6 hr => ?_)
    replace h := zl_sub ez6 h
    clear ez6
    refine lv_iconst (v := (0 : Int32)) F.1 F.2.1 dX19_box_48 (by decide) ?_
    refine lv_istore_n (lv' := [(3, .int (0 : Int32)), (2, .ref (B1 12 n1)), (0, .ref (B1 19 x0)), (1, .int (1 : Int32))]) F.1 F.2.1 dX19_box_49 rfl hl (by decide) rfl (fun ls hl => ?_)
    refine lv_iload_n F.1 F.2.1 dX19_box_50 rfl (lv_at hl 0 rfl) ?_
    refine lv_iconst (v := (4 : Int32)) F.1 F.2.1 dX19_box_51 (by decide) ?_
    refine lv_icmp_ge (tgt := 74) F.1 F.2.1 dX19_box_52 (by decide) (fun hc => absurd hc (by decide)) (fun _ => ?_)
    refine lv_aload_n F.1 F.2.1 dX19_box_55 rfl (lv_at hl 1 rfl) ?_
    refine gf19_395 F hn1 hr dX19_box_56 ?_
    refine lv_iload_n F.1 F.2.1 dX19_box_59 rfl (lv_at hl 0 rfl) ?_
    obtain ⟨n2, en2⟩ : ∃ y : Nat, y = 4 * n1 + 0 := ⟨_, rfl⟩
    replace h := zl_sub en2 h
    replace h := zqc_some h
    obtain ⟨⟨hfr2, hca2, hcb2⟩, h⟩ := h
    refine zc_new (k := 17) (T := TX17) (N := 7) (fs := [.int 0, .int 0, .int 0, .int 0, .int 0, .int 0, .null]) tyX17 tyX17_ok rfl inX17 zq_2110 zq_2111 zq_18 (zFx_k F hA) (zRC_of F hr) (by decide +kernel) (Nat.le_trans (Nat.le_of_ble_eq_true rfl) hca2) (Nat.le_trans (Nat.le_of_ble_eq_true rfl) hcb2) dX19_box_60 (fun q H hq => ?_)
    have hr := zRC_rep hq
    refine lv_dup F.1 F.2.1 dX19_box_63 rfl ?_
    refine zK_callN (cs := []) (As := []) (rest := [.ref q, .int (0 : Int32), .ref (B1 148 n1)]) hAO zn_2112 rfl zq_2113 zq_2114 zq_18 hdX17_init (okX17_init l D cy q ) (zFx_k F hA) hq hl.1 rfl (Nat.le_of_ble_eq_true rfl) dX19_box_64 ⟨Nat.le_of_ble_eq_true rfl, Nat.le_of_ble_eq_true rfl⟩ ⟨Nat.le_trans (Nat.le_of_ble_eq_true rfl) hca2, Nat.le_trans (Nat.le_of_ble_eq_true rfl) hcb2⟩ (fun H locs cs1 hp hq => ?_)
    obtain ⟨w1, rfl⟩ := hp
    obtain ⟨B2, hB2, eo2, hst, hD2, h9, hr⟩ := zmkX17 hst h9 n2  hfr2 hq
    clear hq
    generalize eI2 : I1 ++ znmX17 n2 = I2 at hst hD2 h9 hr
    have F0 := F
    have F := zFx_nx F hst hD2
    have hi2 : ∀ k o, (k, o) ∈ I1 → (k, o) ∈ I2 := fun k o h => eI2 ▸ List.mem_append_left _ h
    have hn2 : (17, n2) ∈ I2 := eI2 ▸ List.mem_append_right _ (List.mem_of_getElem? (l := znmX17 n2) (i := 0) rfl)
    have hx := zExt_nx hx hB2 hi2
    obtain ⟨z7, ez7⟩ : ∃ y, y = zmg (znmX17 n2) (zmwX17 n2 ) z6 := ⟨_, rfl⟩
    rw [← ez7] at hr
    replace h := zl_sub ez7 h
    clear ez7
    replace h := zl_sub eI2.symm h
    have ha2_0 : (12, n1) ∈ I2 := hi2 _ _ hn1
    have ha2_1 : (19, x0) ∈ I2 := hi2 _ _ ha1_0
    have ha2_2 : (148, n1) ∈ I2 := hi2 _ _ (zal_a F0 hn1 (j := 10) rfl)
    replace hl : lv_has ls 4 [(3, .int (0 : Int32)), (2, .ref (B2 12 n1)), (0, .ref (B2 19 x0)), (1, .int (1 : Int32))] := by
            rw [hB2 12 n1 hn1, hB2 19 x0 ha1_0]; exact hl
    rw [← hB2 148 n1 (zal_a F0 hn1 (j := 10) rfl)]
    subst eo2
    refine zr_aast (k := 148) (v := (some n2)) (T := TX17) (N := 7) (by decide) rfl (by decide) rfl rfl F ha2_2 hr dX19_box_67 (by rw [zlen_d (by decide)]; exact (by unfold vp_in; decide)) (zal_s hn2) (fun H locs z9 ez9 hr => ?_)
    replace h := zl_sub ez9 h
    clear ez9
    refine lv_iinc (v := (1 : Int32)) (lv' := [(3, .int (1 : Int32)), (2, .ref (B2 12 n1)), (0, .ref (B2 19 x0)), (1, .int (1 : Int32))]) F.1 F.2.1 dX19_box_68 hl (k := 0) rfl (by decide) (by decide) rfl (fun ls hl => ?_)
    refine lv_goto (tgt := 50) F.1 F.2.1 dX19_box_71 (by decide) ?_
    refine lv_iload_n F.1 F.2.1 dX19_box_50 rfl (lv_at hl 0 rfl) ?_
    refine lv_iconst (v := (4 : Int32)) F.1 F.2.1 dX19_box_51 (by decide) ?_
    refine lv_icmp_ge (tgt := 74) F.1 F.2.1 dX19_box_52 (by decide) (fun hc => absurd hc (by decide)) (fun _ => ?_)
    refine lv_aload_n F.1 F.2.1 dX19_box_55 rfl (lv_at hl 1 rfl) ?_
    refine gf19_395 F ha2_0 hr dX19_box_56 ?_
    refine lv_iload_n F.1 F.2.1 dX19_box_59 rfl (lv_at hl 0 rfl) ?_
    obtain ⟨n3, en3⟩ : ∃ y : Nat, y = 4 * n1 + 1 := ⟨_, rfl⟩
    replace h := zl_sub en3 h
    replace h := zqc_some h
    obtain ⟨⟨hfr3, hca3, hcb3⟩, h⟩ := h
    refine zc_new (k := 17) (T := TX17) (N := 7) (fs := [.int 0, .int 0, .int 0, .int 0, .int 0, .int 0, .null]) tyX17 tyX17_ok rfl inX17 zq_2110 zq_2111 zq_18 (zFx_k F hA) (zRC_of F hr) (by decide +kernel) (Nat.le_trans (Nat.le_of_ble_eq_true rfl) hca3) (Nat.le_trans (Nat.le_of_ble_eq_true rfl) hcb3) dX19_box_60 (fun q H hq => ?_)
    have hr := zRC_rep hq
    refine lv_dup F.1 F.2.1 dX19_box_63 rfl ?_
    refine zK_callN (cs := []) (As := []) (rest := [.ref q, .int (1 : Int32), .ref (B2 148 n1)]) hAO zn_2112 rfl zq_2113 zq_2114 zq_18 hdX17_init (okX17_init l D cy q ) (zFx_k F hA) hq hl.1 rfl (Nat.le_of_ble_eq_true rfl) dX19_box_64 ⟨Nat.le_of_ble_eq_true rfl, Nat.le_of_ble_eq_true rfl⟩ ⟨Nat.le_trans (Nat.le_of_ble_eq_true rfl) hca3, Nat.le_trans (Nat.le_of_ble_eq_true rfl) hcb3⟩ (fun H locs cs1 hp hq => ?_)
    obtain ⟨w1, rfl⟩ := hp
    obtain ⟨B3, hB3, eo3, hst, hD3, h9, hr⟩ := zmkX17 hst h9 n3  hfr3 hq
    clear hq
    generalize eI3 : I2 ++ znmX17 n3 = I3 at hst hD3 h9 hr
    have F0 := F
    have F := zFx_nx F hst hD3
    have hi3 : ∀ k o, (k, o) ∈ I2 → (k, o) ∈ I3 := fun k o h => eI3 ▸ List.mem_append_left _ h
    have hn3 : (17, n3) ∈ I3 := eI3 ▸ List.mem_append_right _ (List.mem_of_getElem? (l := znmX17 n3) (i := 0) rfl)
    have hx := zExt_nx hx hB3 hi3
    obtain ⟨z10, ez10⟩ : ∃ y, y = zmg (znmX17 n3) (zmwX17 n3 ) z9 := ⟨_, rfl⟩
    rw [← ez10] at hr
    replace h := zl_sub ez10 h
    clear ez10
    replace h := zl_sub eI3.symm h
    have ha3_0 : (12, n1) ∈ I3 := hi3 _ _ ha2_0
    have ha3_1 : (19, x0) ∈ I3 := hi3 _ _ ha2_1
    have ha3_2 : (148, n1) ∈ I3 := hi3 _ _ (zal_a F0 ha2_0 (j := 10) rfl)
    replace hl : lv_has ls 4 [(3, .int (1 : Int32)), (2, .ref (B3 12 n1)), (0, .ref (B3 19 x0)), (1, .int (1 : Int32))] := by
            rw [hB3 12 n1 ha2_0, hB3 19 x0 ha2_1]; exact hl
    rw [← hB3 148 n1 (zal_a F0 ha2_0 (j := 10) rfl)]
    subst eo3
    refine zr_aast (k := 148) (v := (some n3)) (T := TX17) (N := 7) (by decide) rfl (by decide) rfl rfl F ha3_2 hr dX19_box_67 (by rw [zlen_d (by decide)]; exact (by unfold vp_in; decide)) (zal_s hn3) (fun H locs z12 ez12 hr => ?_)
    replace h := zl_sub ez12 h
    clear ez12
    refine lv_iinc (v := (2 : Int32)) (lv' := [(3, .int (2 : Int32)), (2, .ref (B3 12 n1)), (0, .ref (B3 19 x0)), (1, .int (1 : Int32))]) F.1 F.2.1 dX19_box_68 hl (k := 0) rfl (by decide) (by decide) rfl (fun ls hl => ?_)
    refine lv_goto (tgt := 50) F.1 F.2.1 dX19_box_71 (by decide) ?_
    refine lv_iload_n F.1 F.2.1 dX19_box_50 rfl (lv_at hl 0 rfl) ?_
    refine lv_iconst (v := (4 : Int32)) F.1 F.2.1 dX19_box_51 (by decide) ?_
    refine lv_icmp_ge (tgt := 74) F.1 F.2.1 dX19_box_52 (by decide) (fun hc => absurd hc (by decide)) (fun _ => ?_)
    refine lv_aload_n F.1 F.2.1 dX19_box_55 rfl (lv_at hl 1 rfl) ?_
    refine gf19_395 F ha3_0 hr dX19_box_56 ?_
    refine lv_iload_n F.1 F.2.1 dX19_box_59 rfl (lv_at hl 0 rfl) ?_
    obtain ⟨n4, en4⟩ : ∃ y : Nat, y = 4 * n1 + 2 := ⟨_, rfl⟩
    replace h := zl_sub en4 h
    replace h := zqc_some h
    obtain ⟨⟨hfr4, hca4, hcb4⟩, h⟩ := h
    refine zc_new (k := 17) (T := TX17) (N := 7) (fs := [.int 0, .int 0, .int 0, .int 0, .int 0, .int 0, .null]) tyX17 tyX17_ok rfl inX17 zq_2110 zq_2111 zq_18 (zFx_k F hA) (zRC_of F hr) (by decide +kernel) (Nat.le_trans (Nat.le_of_ble_eq_true rfl) hca4) (Nat.le_trans (Nat.le_of_ble_eq_true rfl) hcb4) dX19_box_60 (fun q H hq => ?_)
    have hr := zRC_rep hq
    refine lv_dup F.1 F.2.1 dX19_box_63 rfl ?_
    refine zK_callN (cs := []) (As := []) (rest := [.ref q, .int (2 : Int32), .ref (B3 148 n1)]) hAO zn_2112 rfl zq_2113 zq_2114 zq_18 hdX17_init (okX17_init l D cy q ) (zFx_k F hA) hq hl.1 rfl (Nat.le_of_ble_eq_true rfl) dX19_box_64 ⟨Nat.le_of_ble_eq_true rfl, Nat.le_of_ble_eq_true rfl⟩ ⟨Nat.le_trans (Nat.le_of_ble_eq_true rfl) hca4, Nat.le_trans (Nat.le_of_ble_eq_true rfl) hcb4⟩ (fun H locs cs1 hp hq => ?_)
    obtain ⟨w1, rfl⟩ := hp
    obtain ⟨B4, hB4, eo4, hst, hD4, h9, hr⟩ := zmkX17 hst h9 n4  hfr4 hq
    clear hq
    generalize eI4 : I3 ++ znmX17 n4 = I4 at hst hD4 h9 hr
    have F0 := F
    have F := zFx_nx F hst hD4
    have hi4 : ∀ k o, (k, o) ∈ I3 → (k, o) ∈ I4 := fun k o h => eI4 ▸ List.mem_append_left _ h
    have hn4 : (17, n4) ∈ I4 := eI4 ▸ List.mem_append_right _ (List.mem_of_getElem? (l := znmX17 n4) (i := 0) rfl)
    have hx := zExt_nx hx hB4 hi4
    obtain ⟨z13, ez13⟩ : ∃ y, y = zmg (znmX17 n4) (zmwX17 n4 ) z12 := ⟨_, rfl⟩
    rw [← ez13] at hr
    replace h := zl_sub ez13 h
    clear ez13
    replace h := zl_sub eI4.symm h
    have ha4_0 : (12, n1) ∈ I4 := hi4 _ _ ha3_0
    have ha4_1 : (19, x0) ∈ I4 := hi4 _ _ ha3_1
    have ha4_2 : (148, n1) ∈ I4 := hi4 _ _ (zal_a F0 ha3_0 (j := 10) rfl)
    replace hl : lv_has ls 4 [(3, .int (2 : Int32)), (2, .ref (B4 12 n1)), (0, .ref (B4 19 x0)), (1, .int (1 : Int32))] := by
            rw [hB4 12 n1 ha3_0, hB4 19 x0 ha3_1]; exact hl
    rw [← hB4 148 n1 (zal_a F0 ha3_0 (j := 10) rfl)]
    subst eo4
    refine zr_aast (k := 148) (v := (some n4)) (T := TX17) (N := 7) (by decide) rfl (by decide) rfl rfl F ha4_2 hr dX19_box_67 (by rw [zlen_d (by decide)]; exact (by unfold vp_in; decide)) (zal_s hn4) (fun H locs z15 ez15 hr => ?_)
    replace h := zl_sub ez15 h
    clear ez15
    refine lv_iinc (v := (3 : Int32)) (lv' := [(3, .int (3 : Int32)), (2, .ref (B4 12 n1)), (0, .ref (B4 19 x0)), (1, .int (1 : Int32))]) F.1 F.2.1 dX19_box_68 hl (k := 0) rfl (by decide) (by decide) rfl (fun ls hl => ?_)
    refine lv_goto (tgt := 50) F.1 F.2.1 dX19_box_71 (by decide) ?_
    refine lv_iload_n F.1 F.2.1 dX19_box_50 rfl (lv_at hl 0 rfl) ?_
    refine lv_iconst (v := (4 : Int32)) F.1 F.2.1 dX19_box_51 (by decide) ?_
    refine lv_icmp_ge (tgt := 74) F.1 F.2.1 dX19_box_52 (by decide) (fun hc => absurd hc (by decide)) (fun _ => ?_)
    refine lv_aload_n F.1 F.2.1 dX19_box_55 rfl (lv_at hl 1 rfl) ?_
    refine gf19_395 F ha4_0 hr dX19_box_56 ?_
    refine lv_iload_n F.1 F.2.1 dX19_box_59 rfl (lv_at hl 0 rfl) ?_
    obtain ⟨n5, en5⟩ : ∃ y : Nat, y = 4 * n1 + 3 := ⟨_, rfl⟩
    replace h := zl_sub en5 h
    replace h := zqc_some h
    obtain ⟨⟨hfr5, hca5, hcb5⟩, h⟩ := h
    refine zc_new (k := 17) (T := TX17) (N := 7) (fs := [.int 0, .int 0, .int 0, .int 0, .int 0, .int 0, .null]) tyX17 tyX17_ok rfl inX17 zq_2110 zq_2111 zq_18 (zFx_k F hA) (zRC_of F hr) (by decide +kernel) (Nat.le_trans (Nat.le_of_ble_eq_true rfl) hca5) (Nat.le_trans (Nat.le_of_ble_eq_true rfl) hcb5) dX19_box_60 (fun q H hq => ?_)
    have hr := zRC_rep hq
    refine lv_dup F.1 F.2.1 dX19_box_63 rfl ?_
    refine zK_callN (cs := []) (As := []) (rest := [.ref q, .int (3 : Int32), .ref (B4 148 n1)]) hAO zn_2112 rfl zq_2113 zq_2114 zq_18 hdX17_init (okX17_init l D cy q ) (zFx_k F hA) hq hl.1 rfl (Nat.le_of_ble_eq_true rfl) dX19_box_64 ⟨Nat.le_of_ble_eq_true rfl, Nat.le_of_ble_eq_true rfl⟩ ⟨Nat.le_trans (Nat.le_of_ble_eq_true rfl) hca5, Nat.le_trans (Nat.le_of_ble_eq_true rfl) hcb5⟩ (fun H locs cs1 hp hq => ?_)
    obtain ⟨w1, rfl⟩ := hp
    obtain ⟨B5, hB5, eo5, hst, hD5, h9, hr⟩ := zmkX17 hst h9 n5  hfr5 hq
    clear hq
    generalize eI5 : I4 ++ znmX17 n5 = I5 at hst hD5 h9 hr
    have F0 := F
    have F := zFx_nx F hst hD5
    have hi5 : ∀ k o, (k, o) ∈ I4 → (k, o) ∈ I5 := fun k o h => eI5 ▸ List.mem_append_left _ h
    have hn5 : (17, n5) ∈ I5 := eI5 ▸ List.mem_append_right _ (List.mem_of_getElem? (l := znmX17 n5) (i := 0) rfl)
    have hx := zExt_nx hx hB5 hi5
    obtain ⟨z16, ez16⟩ : ∃ y, y = zmg (znmX17 n5) (zmwX17 n5 ) z15 := ⟨_, rfl⟩
    rw [← ez16] at hr
    replace h := zl_sub ez16 h
    clear ez16
    replace h := zl_sub eI5.symm h
    have ha5_0 : (12, n1) ∈ I5 := hi5 _ _ ha4_0
    have ha5_1 : (19, x0) ∈ I5 := hi5 _ _ ha4_1
    have ha5_2 : (148, n1) ∈ I5 := hi5 _ _ (zal_a F0 ha4_0 (j := 10) rfl)
    replace hl : lv_has ls 4 [(3, .int (3 : Int32)), (2, .ref (B5 12 n1)), (0, .ref (B5 19 x0)), (1, .int (1 : Int32))] := by
            rw [hB5 12 n1 ha4_0, hB5 19 x0 ha4_1]; exact hl
    rw [← hB5 148 n1 (zal_a F0 ha4_0 (j := 10) rfl)]
    subst eo5
    refine zr_aast (k := 148) (v := (some n5)) (T := TX17) (N := 7) (by decide) rfl (by decide) rfl rfl F ha5_2 hr dX19_box_67 (by rw [zlen_d (by decide)]; exact (by unfold vp_in; decide)) (zal_s hn5) (fun H locs z18 ez18 hr => ?_)
    replace h := zl_sub ez18 h
    clear ez18
    refine lv_iinc (v := (4 : Int32)) (lv' := [(3, .int (4 : Int32)), (2, .ref (B5 12 n1)), (0, .ref (B5 19 x0)), (1, .int (1 : Int32))]) F.1 F.2.1 dX19_box_68 hl (k := 0) rfl (by decide) (by decide) rfl (fun ls hl => ?_)
    refine lv_goto (tgt := 50) F.1 F.2.1 dX19_box_71 (by decide) ?_
    refine lv_iload_n F.1 F.2.1 dX19_box_50 rfl (lv_at hl 0 rfl) ?_
    refine lv_iconst (v := (4 : Int32)) F.1 F.2.1 dX19_box_51 (by decide) ?_
    refine lv_icmp_ge (tgt := 74) F.1 F.2.1 dX19_box_52 (by decide) (fun _ => ?_) (fun hc => absurd (by decide) hc)
    refine lv_iconst (v := (0 : Int32)) F.1 F.2.1 dX19_box_74 (by decide) ?_
    refine lv_istore_n (lv' := [(3, .int (0 : Int32)), (2, .ref (B5 12 n1)), (0, .ref (B5 19 x0)), (1, .int (1 : Int32))]) F.1 F.2.1 dX19_box_75 rfl hl (by decide) rfl (fun ls hl => ?_)
    refine lv_iload_n F.1 F.2.1 dX19_box_76 rfl (lv_at hl 0 rfl) ?_
    refine lv_bipush (v := (16 : Int32)) F.1 F.2.1 dX19_box_77 (by decide) ?_
    refine lv_icmp_ge (tgt := 112) F.1 F.2.1 dX19_box_79 (by decide) (fun hc => absurd hc (by decide)) (fun _ => ?_)
    refine lv_aload_n F.1 F.2.1 dX19_box_82 rfl (lv_at hl 1 rfl) ?_
    refine gf19_448 F ha5_0 hr dX19_box_83 ?_
    refine lv_iload_n F.1 F.2.1 dX19_box_86 rfl (lv_at hl 0 rfl) ?_
    refine lv_iconst (v := (-1 : Int32)) F.1 F.2.1 dX19_box_87 (by decide) ?_
    refine zr_iast (k := 150) (by decide) rfl (by decide) F (zal_a F ha5_0 (j := 14) rfl) hr dX19_box_88 (by unfold vp_in; decide) (fun H locs z20 ez20 hr => ?_)
    replace h := zl_sub ez20 h
    clear ez20
    refine lv_iload_n F.1 F.2.1 dX19_box_89 rfl (lv_at hl 3 rfl) ?_
    refine lv_if_eq (tgt := 106) F.1 F.2.1 dX19_box_90 (by decide) (fun hc => absurd hc (by decide)) (fun _ => ?_)
    refine lv_aload_n F.1 F.2.1 dX19_box_93 rfl (lv_at hl 1 rfl) ?_
    refine gf19_460 F ha5_0 hr dX19_box_94 ?_
    refine lv_iload_n F.1 F.2.1 dX19_box_97 rfl (lv_at hl 0 rfl) ?_
    obtain ⟨n6, en6⟩ : ∃ y : Nat, y = 16 * n1 + 0 := ⟨_, rfl⟩
    replace h := zl_sub en6 h
    replace h := zqc_some h
    obtain ⟨⟨hfr6, hca6, hcb6⟩, h⟩ := h
    refine zc_new (k := 15) (T := TX15) (N := 6) (fs := [.int 0, .int 0, .int 0, .int 0, .null, .null]) tyX15 tyX15_ok rfl inX15 zq_2140 zq_2141 zq_19 (zFx_k F hA) (zRC_of F hr) (by decide +kernel) (Nat.le_trans (Nat.le_of_ble_eq_true rfl) hca6) (Nat.le_trans (Nat.le_of_ble_eq_true rfl) hcb6) dX19_box_98 (fun q H hq => ?_)
    have hr := zRC_rep hq
    refine lv_dup F.1 F.2.1 dX19_box_101 rfl ?_
    refine zK_callN (cs := []) (As := []) (rest := [.ref q, .int (0 : Int32), .ref (B5 149 n1)]) hAO zn_2142 rfl zq_2143 zq_2144 zq_19 hdX15_init (okX15_init l D cy q ) (zFx_k F hA) hq hl.1 rfl (Nat.le_of_ble_eq_true rfl) dX19_box_102 ⟨Nat.le_of_ble_eq_true rfl, Nat.le_of_ble_eq_true rfl⟩ ⟨Nat.le_trans (Nat.le_of_ble_eq_true rfl) hca6, Nat.le_trans (Nat.le_of_ble_eq_true rfl) hcb6⟩ (fun H locs cs1 hp hq => ?_)
    obtain ⟨w1, w2, rfl⟩ := hp
    obtain ⟨B6, hB6, eo6, hst, hD6, h9, hr⟩ := zmkX15 hst h9 n6  hfr6 hq
    clear hq
    generalize eI6 : I5 ++ znmX15 n6 = I6 at hst hD6 h9 hr
    have F0 := F
    have F := zFx_nx F hst hD6
    have hi6 : ∀ k o, (k, o) ∈ I5 → (k, o) ∈ I6 := fun k o h => eI6 ▸ List.mem_append_left _ h
    have hn6 : (15, n6) ∈ I6 := eI6 ▸ List.mem_append_right _ (List.mem_of_getElem? (l := znmX15 n6) (i := 0) rfl)
    have hx := zExt_nx hx hB6 hi6
    obtain ⟨z21, ez21⟩ : ∃ y, y = zmg (znmX15 n6) (zmwX15 n6 ) z20 := ⟨_, rfl⟩
    rw [← ez21] at hr
    replace h := zl_sub ez21 h
    clear ez21
    replace h := zl_sub eI6.symm h
    have ha6_0 : (12, n1) ∈ I6 := hi6 _ _ ha5_0
    have ha6_1 : (19, x0) ∈ I6 := hi6 _ _ ha5_1
    have ha6_2 : (149, n1) ∈ I6 := hi6 _ _ (zal_a F0 ha5_0 (j := 12) rfl)
    replace hl : lv_has ls 4 [(3, .int (0 : Int32)), (2, .ref (B6 12 n1)), (0, .ref (B6 19 x0)), (1, .int (1 : Int32))] := by
            rw [hB6 12 n1 ha5_0, hB6 19 x0 ha5_1]; exact hl
    rw [← hB6 149 n1 (zal_a F0 ha5_0 (j := 12) rfl)]
    subst eo6
    refine zr_aast (k := 149) (v := (some n6)) (T := TX15) (N := 6) (by decide) rfl (by decide) rfl rfl F ha6_2 hr dX19_box_105 (by rw [zlen_d (by decide)]; exact (by unfold vp_in; decide)) (zal_s hn6) (fun H locs z23 ez23 hr => ?_)
    replace h := zl_sub ez23 h
    clear ez23
    refine lv_iinc (v := (1 : Int32)) (lv' := [(3, .int (1 : Int32)), (2, .ref (B6 12 n1)), (0, .ref (B6 19 x0)), (1, .int (1 : Int32))]) F.1 F.2.1 dX19_box_106 hl (k := 0) rfl (by decide) (by decide) rfl (fun ls hl => ?_)
    refine lv_goto (tgt := 76) F.1 F.2.1 dX19_box_109 (by decide) ?_
    refine lv_iload_n F.1 F.2.1 dX19_box_76 rfl (lv_at hl 0 rfl) ?_
    refine lv_bipush (v := (16 : Int32)) F.1 F.2.1 dX19_box_77 (by decide) ?_
    refine lv_icmp_ge (tgt := 112) F.1 F.2.1 dX19_box_79 (by decide) (fun hc => absurd hc (by decide)) (fun _ => ?_)
    refine lv_aload_n F.1 F.2.1 dX19_box_82 rfl (lv_at hl 1 rfl) ?_
    refine gf19_448 F ha6_0 hr dX19_box_83 ?_
    refine lv_iload_n F.1 F.2.1 dX19_box_86 rfl (lv_at hl 0 rfl) ?_
    refine lv_iconst (v := (-1 : Int32)) F.1 F.2.1 dX19_box_87 (by decide) ?_
    refine zr_iast (k := 150) (by decide) rfl (by decide) F (zal_a F ha6_0 (j := 14) rfl) hr dX19_box_88 (by unfold vp_in; decide) (fun H locs z25 ez25 hr => ?_)
    replace h := zl_sub ez25 h
    clear ez25
    refine lv_iload_n F.1 F.2.1 dX19_box_89 rfl (lv_at hl 3 rfl) ?_
    refine lv_if_eq (tgt := 106) F.1 F.2.1 dX19_box_90 (by decide) (fun hc => absurd hc (by decide)) (fun _ => ?_)
    refine lv_aload_n F.1 F.2.1 dX19_box_93 rfl (lv_at hl 1 rfl) ?_
    refine gf19_460 F ha6_0 hr dX19_box_94 ?_
    refine lv_iload_n F.1 F.2.1 dX19_box_97 rfl (lv_at hl 0 rfl) ?_
    obtain ⟨n7, en7⟩ : ∃ y : Nat, y = 16 * n1 + 1 := ⟨_, rfl⟩
    replace h := zl_sub en7 h
    replace h := zqc_some h
    obtain ⟨⟨hfr7, hca7, hcb7⟩, h⟩ := h
    refine zc_new (k := 15) (T := TX15) (N := 6) (fs := [.int 0, .int 0, .int 0, .int 0, .null, .null]) tyX15 tyX15_ok rfl inX15 zq_2140 zq_2141 zq_19 (zFx_k F hA) (zRC_of F hr) (by decide +kernel) (Nat.le_trans (Nat.le_of_ble_eq_true rfl) hca7) (Nat.le_trans (Nat.le_of_ble_eq_true rfl) hcb7) dX19_box_98 (fun q H hq => ?_)
    have hr := zRC_rep hq
    refine lv_dup F.1 F.2.1 dX19_box_101 rfl ?_
    refine zK_callN (cs := []) (As := []) (rest := [.ref q, .int (1 : Int32), .ref (B6 149 n1)]) hAO zn_2142 rfl zq_2143 zq_2144 zq_19 hdX15_init (okX15_init l D cy q ) (zFx_k F hA) hq hl.1 rfl (Nat.le_of_ble_eq_true rfl) dX19_box_102 ⟨Nat.le_of_ble_eq_true rfl, Nat.le_of_ble_eq_true rfl⟩ ⟨Nat.le_trans (Nat.le_of_ble_eq_true rfl) hca7, Nat.le_trans (Nat.le_of_ble_eq_true rfl) hcb7⟩ (fun H locs cs1 hp hq => ?_)
    obtain ⟨w1, w2, rfl⟩ := hp
    obtain ⟨B7, hB7, eo7, hst, hD7, h9, hr⟩ := zmkX15 hst h9 n7  hfr7 hq
    clear hq
    generalize eI7 : I6 ++ znmX15 n7 = I7 at hst hD7 h9 hr
    have F0 := F
    have F := zFx_nx F hst hD7
    have hi7 : ∀ k o, (k, o) ∈ I6 → (k, o) ∈ I7 := fun k o h => eI7 ▸ List.mem_append_left _ h
    have hn7 : (15, n7) ∈ I7 := eI7 ▸ List.mem_append_right _ (List.mem_of_getElem? (l := znmX15 n7) (i := 0) rfl)
    have hx := zExt_nx hx hB7 hi7
    obtain ⟨z26, ez26⟩ : ∃ y, y = zmg (znmX15 n7) (zmwX15 n7 ) z25 := ⟨_, rfl⟩
    rw [← ez26] at hr
    replace h := zl_sub ez26 h
    clear ez26
    replace h := zl_sub eI7.symm h
    have ha7_0 : (12, n1) ∈ I7 := hi7 _ _ ha6_0
    have ha7_1 : (19, x0) ∈ I7 := hi7 _ _ ha6_1
    have ha7_2 : (149, n1) ∈ I7 := hi7 _ _ (zal_a F0 ha6_0 (j := 12) rfl)
    replace hl : lv_has ls 4 [(3, .int (1 : Int32)), (2, .ref (B7 12 n1)), (0, .ref (B7 19 x0)), (1, .int (1 : Int32))] := by
            rw [hB7 12 n1 ha6_0, hB7 19 x0 ha6_1]; exact hl
    rw [← hB7 149 n1 (zal_a F0 ha6_0 (j := 12) rfl)]
    subst eo7
    refine zr_aast (k := 149) (v := (some n7)) (T := TX15) (N := 6) (by decide) rfl (by decide) rfl rfl F ha7_2 hr dX19_box_105 (by rw [zlen_d (by decide)]; exact (by unfold vp_in; decide)) (zal_s hn7) (fun H locs z28 ez28 hr => ?_)
    replace h := zl_sub ez28 h
    clear ez28
    refine lv_iinc (v := (2 : Int32)) (lv' := [(3, .int (2 : Int32)), (2, .ref (B7 12 n1)), (0, .ref (B7 19 x0)), (1, .int (1 : Int32))]) F.1 F.2.1 dX19_box_106 hl (k := 0) rfl (by decide) (by decide) rfl (fun ls hl => ?_)
    refine lv_goto (tgt := 76) F.1 F.2.1 dX19_box_109 (by decide) ?_
    refine lv_iload_n F.1 F.2.1 dX19_box_76 rfl (lv_at hl 0 rfl) ?_
    refine lv_bipush (v := (16 : Int32)) F.1 F.2.1 dX19_box_77 (by decide) ?_
    refine lv_icmp_ge (tgt := 112) F.1 F.2.1 dX19_box_79 (by decide) (fun hc => absurd hc (by decide)) (fun _ => ?_)
    refine lv_aload_n F.1 F.2.1 dX19_box_82 rfl (lv_at hl 1 rfl) ?_
    refine gf19_448 F ha7_0 hr dX19_box_83 ?_
    refine lv_iload_n F.1 F.2.1 dX19_box_86 rfl (lv_at hl 0 rfl) ?_
    refine lv_iconst (v := (-1 : Int32)) F.1 F.2.1 dX19_box_87 (by decide) ?_
    refine zr_iast (k := 150) (by decide) rfl (by decide) F (zal_a F ha7_0 (j := 14) rfl) hr dX19_box_88 (by unfold vp_in; decide) (fun H locs z30 ez30 hr => ?_)
    replace h := zl_sub ez30 h
    clear ez30
    refine lv_iload_n F.1 F.2.1 dX19_box_89 rfl (lv_at hl 3 rfl) ?_
    refine lv_if_eq (tgt := 106) F.1 F.2.1 dX19_box_90 (by decide) (fun hc => absurd hc (by decide)) (fun _ => ?_)
    refine lv_aload_n F.1 F.2.1 dX19_box_93 rfl (lv_at hl 1 rfl) ?_
    refine gf19_460 F ha7_0 hr dX19_box_94 ?_
    refine lv_iload_n F.1 F.2.1 dX19_box_97 rfl (lv_at hl 0 rfl) ?_
    obtain ⟨n8, en8⟩ : ∃ y : Nat, y = 16 * n1 + 2 := ⟨_, rfl⟩
    replace h := zl_sub en8 h
    replace h := zqc_some h
    obtain ⟨⟨hfr8, hca8, hcb8⟩, h⟩ := h
    refine zc_new (k := 15) (T := TX15) (N := 6) (fs := [.int 0, .int 0, .int 0, .int 0, .null, .null]) tyX15 tyX15_ok rfl inX15 zq_2140 zq_2141 zq_19 (zFx_k F hA) (zRC_of F hr) (by decide +kernel) (Nat.le_trans (Nat.le_of_ble_eq_true rfl) hca8) (Nat.le_trans (Nat.le_of_ble_eq_true rfl) hcb8) dX19_box_98 (fun q H hq => ?_)
    have hr := zRC_rep hq
    refine lv_dup F.1 F.2.1 dX19_box_101 rfl ?_
    refine zK_callN (cs := []) (As := []) (rest := [.ref q, .int (2 : Int32), .ref (B7 149 n1)]) hAO zn_2142 rfl zq_2143 zq_2144 zq_19 hdX15_init (okX15_init l D cy q ) (zFx_k F hA) hq hl.1 rfl (Nat.le_of_ble_eq_true rfl) dX19_box_102 ⟨Nat.le_of_ble_eq_true rfl, Nat.le_of_ble_eq_true rfl⟩ ⟨Nat.le_trans (Nat.le_of_ble_eq_true rfl) hca8, Nat.le_trans (Nat.le_of_ble_eq_true rfl) hcb8⟩ (fun H locs cs1 hp hq => ?_)
    obtain ⟨w1, w2, rfl⟩ := hp
    obtain ⟨B8, hB8, eo8, hst, hD8, h9, hr⟩ := zmkX15 hst h9 n8  hfr8 hq
    clear hq
    generalize eI8 : I7 ++ znmX15 n8 = I8 at hst hD8 h9 hr
    have F0 := F
    have F := zFx_nx F hst hD8
    have hi8 : ∀ k o, (k, o) ∈ I7 → (k, o) ∈ I8 := fun k o h => eI8 ▸ List.mem_append_left _ h
    have hn8 : (15, n8) ∈ I8 := eI8 ▸ List.mem_append_right _ (List.mem_of_getElem? (l := znmX15 n8) (i := 0) rfl)
    have hx := zExt_nx hx hB8 hi8
    obtain ⟨z31, ez31⟩ : ∃ y, y = zmg (znmX15 n8) (zmwX15 n8 ) z30 := ⟨_, rfl⟩
    rw [← ez31] at hr
    replace h := zl_sub ez31 h
    clear ez31
    replace h := zl_sub eI8.symm h
    have ha8_0 : (12, n1) ∈ I8 := hi8 _ _ ha7_0
    have ha8_1 : (19, x0) ∈ I8 := hi8 _ _ ha7_1
    have ha8_2 : (149, n1) ∈ I8 := hi8 _ _ (zal_a F0 ha7_0 (j := 12) rfl)
    replace hl : lv_has ls 4 [(3, .int (2 : Int32)), (2, .ref (B8 12 n1)), (0, .ref (B8 19 x0)), (1, .int (1 : Int32))] := by
            rw [hB8 12 n1 ha7_0, hB8 19 x0 ha7_1]; exact hl
    rw [← hB8 149 n1 (zal_a F0 ha7_0 (j := 12) rfl)]
    subst eo8
    refine zr_aast (k := 149) (v := (some n8)) (T := TX15) (N := 6) (by decide) rfl (by decide) rfl rfl F ha8_2 hr dX19_box_105 (by rw [zlen_d (by decide)]; exact (by unfold vp_in; decide)) (zal_s hn8) (fun H locs z33 ez33 hr => ?_)
    replace h := zl_sub ez33 h
    clear ez33
    refine lv_iinc (v := (3 : Int32)) (lv' := [(3, .int (3 : Int32)), (2, .ref (B8 12 n1)), (0, .ref (B8 19 x0)), (1, .int (1 : Int32))]) F.1 F.2.1 dX19_box_106 hl (k := 0) rfl (by decide) (by decide) rfl (fun ls hl => ?_)
    refine lv_goto (tgt := 76) F.1 F.2.1 dX19_box_109 (by decide) ?_
    refine lv_iload_n F.1 F.2.1 dX19_box_76 rfl (lv_at hl 0 rfl) ?_
    refine lv_bipush (v := (16 : Int32)) F.1 F.2.1 dX19_box_77 (by decide) ?_
    refine lv_icmp_ge (tgt := 112) F.1 F.2.1 dX19_box_79 (by decide) (fun hc => absurd hc (by decide)) (fun _ => ?_)
    refine lv_aload_n F.1 F.2.1 dX19_box_82 rfl (lv_at hl 1 rfl) ?_
    refine gf19_448 F ha8_0 hr dX19_box_83 ?_
    refine lv_iload_n F.1 F.2.1 dX19_box_86 rfl (lv_at hl 0 rfl) ?_
    refine lv_iconst (v := (-1 : Int32)) F.1 F.2.1 dX19_box_87 (by decide) ?_
    refine zr_iast (k := 150) (by decide) rfl (by decide) F (zal_a F ha8_0 (j := 14) rfl) hr dX19_box_88 (by unfold vp_in; decide) (fun H locs z35 ez35 hr => ?_)
    replace h := zl_sub ez35 h
    clear ez35
    refine lv_iload_n F.1 F.2.1 dX19_box_89 rfl (lv_at hl 3 rfl) ?_
    refine lv_if_eq (tgt := 106) F.1 F.2.1 dX19_box_90 (by decide) (fun hc => absurd hc (by decide)) (fun _ => ?_)
    refine lv_aload_n F.1 F.2.1 dX19_box_93 rfl (lv_at hl 1 rfl) ?_
    refine gf19_460 F ha8_0 hr dX19_box_94 ?_
    refine lv_iload_n F.1 F.2.1 dX19_box_97 rfl (lv_at hl 0 rfl) ?_
    obtain ⟨n9, en9⟩ : ∃ y : Nat, y = 16 * n1 + 3 := ⟨_, rfl⟩
    replace h := zl_sub en9 h
    replace h := zqc_some h
    obtain ⟨⟨hfr9, hca9, hcb9⟩, h⟩ := h
    refine zc_new (k := 15) (T := TX15) (N := 6) (fs := [.int 0, .int 0, .int 0, .int 0, .null, .null]) tyX15 tyX15_ok rfl inX15 zq_2140 zq_2141 zq_19 (zFx_k F hA) (zRC_of F hr) (by decide +kernel) (Nat.le_trans (Nat.le_of_ble_eq_true rfl) hca9) (Nat.le_trans (Nat.le_of_ble_eq_true rfl) hcb9) dX19_box_98 (fun q H hq => ?_)
    have hr := zRC_rep hq
    refine lv_dup F.1 F.2.1 dX19_box_101 rfl ?_
    refine zK_callN (cs := []) (As := []) (rest := [.ref q, .int (3 : Int32), .ref (B8 149 n1)]) hAO zn_2142 rfl zq_2143 zq_2144 zq_19 hdX15_init (okX15_init l D cy q ) (zFx_k F hA) hq hl.1 rfl (Nat.le_of_ble_eq_true rfl) dX19_box_102 ⟨Nat.le_of_ble_eq_true rfl, Nat.le_of_ble_eq_true rfl⟩ ⟨Nat.le_trans (Nat.le_of_ble_eq_true rfl) hca9, Nat.le_trans (Nat.le_of_ble_eq_true rfl) hcb9⟩ (fun H locs cs1 hp hq => ?_)
    obtain ⟨w1, w2, rfl⟩ := hp
    obtain ⟨B9, hB9, eo9, hst, hD9, h9, hr⟩ := zmkX15 hst h9 n9  hfr9 hq
    clear hq
    generalize eI9 : I8 ++ znmX15 n9 = I9 at hst hD9 h9 hr
    have F0 := F
    have F := zFx_nx F hst hD9
    have hi9 : ∀ k o, (k, o) ∈ I8 → (k, o) ∈ I9 := fun k o h => eI9 ▸ List.mem_append_left _ h
    have hn9 : (15, n9) ∈ I9 := eI9 ▸ List.mem_append_right _ (List.mem_of_getElem? (l := znmX15 n9) (i := 0) rfl)
    have hx := zExt_nx hx hB9 hi9
    obtain ⟨z36, ez36⟩ : ∃ y, y = zmg (znmX15 n9) (zmwX15 n9 ) z35 := ⟨_, rfl⟩
    rw [← ez36] at hr
    replace h := zl_sub ez36 h
    clear ez36
    replace h := zl_sub eI9.symm h
    have ha9_0 : (12, n1) ∈ I9 := hi9 _ _ ha8_0
    have ha9_1 : (19, x0) ∈ I9 := hi9 _ _ ha8_1
    have ha9_2 : (149, n1) ∈ I9 := hi9 _ _ (zal_a F0 ha8_0 (j := 12) rfl)
    replace hl : lv_has ls 4 [(3, .int (3 : Int32)), (2, .ref (B9 12 n1)), (0, .ref (B9 19 x0)), (1, .int (1 : Int32))] := by
            rw [hB9 12 n1 ha8_0, hB9 19 x0 ha8_1]; exact hl
    rw [← hB9 149 n1 (zal_a F0 ha8_0 (j := 12) rfl)]
    subst eo9
    refine zr_aast (k := 149) (v := (some n9)) (T := TX15) (N := 6) (by decide) rfl (by decide) rfl rfl F ha9_2 hr dX19_box_105 (by rw [zlen_d (by decide)]; exact (by unfold vp_in; decide)) (zal_s hn9) (fun H locs z38 ez38 hr => ?_)
    replace h := zl_sub ez38 h
    clear ez38
    refine lv_iinc (v := (4 : Int32)) (lv' := [(3, .int (4 : Int32)), (2, .ref (B9 12 n1)), (0, .ref (B9 19 x0)), (1, .int (1 : Int32))]) F.1 F.2.1 dX19_box_106 hl (k := 0) rfl (by decide) (by decide) rfl (fun ls hl => ?_)
    refine lv_goto (tgt := 76) F.1 F.2.1 dX19_box_109 (by decide) ?_
    refine lv_iload_n F.1 F.2.1 dX19_box_76 rfl (lv_at hl 0 rfl) ?_
    refine lv_bipush (v := (16 : Int32)) F.1 F.2.1 dX19_box_77 (by decide) ?_
    refine lv_icmp_ge (tgt := 112) F.1 F.2.1 dX19_box_79 (by decide) (fun hc => absurd hc (by decide)) (fun _ => ?_)
    refine lv_aload_n F.1 F.2.1 dX19_box_82 rfl (lv_at hl 1 rfl) ?_
    refine gf19_448 F ha9_0 hr dX19_box_83 ?_
    refine lv_iload_n F.1 F.2.1 dX19_box_86 rfl (lv_at hl 0 rfl) ?_
    refine lv_iconst (v := (-1 : Int32)) F.1 F.2.1 dX19_box_87 (by decide) ?_
    refine zr_iast (k := 150) (by decide) rfl (by decide) F (zal_a F ha9_0 (j := 14) rfl) hr dX19_box_88 (by unfold vp_in; decide) (fun H locs z40 ez40 hr => ?_)
    replace h := zl_sub ez40 h
    clear ez40
    refine lv_iload_n F.1 F.2.1 dX19_box_89 rfl (lv_at hl 3 rfl) ?_
    refine lv_if_eq (tgt := 106) F.1 F.2.1 dX19_box_90 (by decide) (fun hc => absurd hc (by decide)) (fun _ => ?_)
    refine lv_aload_n F.1 F.2.1 dX19_box_93 rfl (lv_at hl 1 rfl) ?_
    refine gf19_460 F ha9_0 hr dX19_box_94 ?_
    refine lv_iload_n F.1 F.2.1 dX19_box_97 rfl (lv_at hl 0 rfl) ?_
    obtain ⟨n10, en10⟩ : ∃ y : Nat, y = 16 * n1 + 4 := ⟨_, rfl⟩
    replace h := zl_sub en10 h
    replace h := zqc_some h
    obtain ⟨⟨hfr10, hca10, hcb10⟩, h⟩ := h
    refine zc_new (k := 15) (T := TX15) (N := 6) (fs := [.int 0, .int 0, .int 0, .int 0, .null, .null]) tyX15 tyX15_ok rfl inX15 zq_2140 zq_2141 zq_19 (zFx_k F hA) (zRC_of F hr) (by decide +kernel) (Nat.le_trans (Nat.le_of_ble_eq_true rfl) hca10) (Nat.le_trans (Nat.le_of_ble_eq_true rfl) hcb10) dX19_box_98 (fun q H hq => ?_)
    have hr := zRC_rep hq
    refine lv_dup F.1 F.2.1 dX19_box_101 rfl ?_
    refine zK_callN (cs := []) (As := []) (rest := [.ref q, .int (4 : Int32), .ref (B9 149 n1)]) hAO zn_2142 rfl zq_2143 zq_2144 zq_19 hdX15_init (okX15_init l D cy q ) (zFx_k F hA) hq hl.1 rfl (Nat.le_of_ble_eq_true rfl) dX19_box_102 ⟨Nat.le_of_ble_eq_true rfl, Nat.le_of_ble_eq_true rfl⟩ ⟨Nat.le_trans (Nat.le_of_ble_eq_true rfl) hca10, Nat.le_trans (Nat.le_of_ble_eq_true rfl) hcb10⟩ (fun H locs cs1 hp hq => ?_)
    obtain ⟨w1, w2, rfl⟩ := hp
    obtain ⟨B10, hB10, eo10, hst, hD10, h9, hr⟩ := zmkX15 hst h9 n10  hfr10 hq
    clear hq
    generalize eI10 : I9 ++ znmX15 n10 = I10 at hst hD10 h9 hr
    have F0 := F
    have F := zFx_nx F hst hD10
    have hi10 : ∀ k o, (k, o) ∈ I9 → (k, o) ∈ I10 := fun k o h => eI10 ▸ List.mem_append_left _ h
    have hn10 : (15, n10) ∈ I10 := eI10 ▸ List.mem_append_right _ (List.mem_of_getElem? (l := znmX15 n10) (i := 0) rfl)
    have hx := zExt_nx hx hB10 hi10
    obtain ⟨z41, ez41⟩ : ∃ y, y = zmg (znmX15 n10) (zmwX15 n10 ) z40 := ⟨_, rfl⟩
    rw [← ez41] at hr
    replace h := zl_sub ez41 h
    clear ez41
    replace h := zl_sub eI10.symm h
    have ha10_0 : (12, n1) ∈ I10 := hi10 _ _ ha9_0
    have ha10_1 : (19, x0) ∈ I10 := hi10 _ _ ha9_1
    have ha10_2 : (149, n1) ∈ I10 := hi10 _ _ (zal_a F0 ha9_0 (j := 12) rfl)
    replace hl : lv_has ls 4 [(3, .int (4 : Int32)), (2, .ref (B10 12 n1)), (0, .ref (B10 19 x0)), (1, .int (1 : Int32))] := by
            rw [hB10 12 n1 ha9_0, hB10 19 x0 ha9_1]; exact hl
    rw [← hB10 149 n1 (zal_a F0 ha9_0 (j := 12) rfl)]
    subst eo10
    refine zr_aast (k := 149) (v := (some n10)) (T := TX15) (N := 6) (by decide) rfl (by decide) rfl rfl F ha10_2 hr dX19_box_105 (by rw [zlen_d (by decide)]; exact (by unfold vp_in; decide)) (zal_s hn10) (fun H locs z43 ez43 hr => ?_)
    replace h := zl_sub ez43 h
    clear ez43
    refine lv_iinc (v := (5 : Int32)) (lv' := [(3, .int (5 : Int32)), (2, .ref (B10 12 n1)), (0, .ref (B10 19 x0)), (1, .int (1 : Int32))]) F.1 F.2.1 dX19_box_106 hl (k := 0) rfl (by decide) (by decide) rfl (fun ls hl => ?_)
    refine lv_goto (tgt := 76) F.1 F.2.1 dX19_box_109 (by decide) ?_
    refine lv_iload_n F.1 F.2.1 dX19_box_76 rfl (lv_at hl 0 rfl) ?_
    refine lv_bipush (v := (16 : Int32)) F.1 F.2.1 dX19_box_77 (by decide) ?_
    refine lv_icmp_ge (tgt := 112) F.1 F.2.1 dX19_box_79 (by decide) (fun hc => absurd hc (by decide)) (fun _ => ?_)
    refine lv_aload_n F.1 F.2.1 dX19_box_82 rfl (lv_at hl 1 rfl) ?_
    refine gf19_448 F ha10_0 hr dX19_box_83 ?_
    refine lv_iload_n F.1 F.2.1 dX19_box_86 rfl (lv_at hl 0 rfl) ?_
    refine lv_iconst (v := (-1 : Int32)) F.1 F.2.1 dX19_box_87 (by decide) ?_
    refine zr_iast (k := 150) (by decide) rfl (by decide) F (zal_a F ha10_0 (j := 14) rfl) hr dX19_box_88 (by unfold vp_in; decide) (fun H locs z45 ez45 hr => ?_)
    replace h := zl_sub ez45 h
    clear ez45
    refine lv_iload_n F.1 F.2.1 dX19_box_89 rfl (lv_at hl 3 rfl) ?_
    refine lv_if_eq (tgt := 106) F.1 F.2.1 dX19_box_90 (by decide) (fun hc => absurd hc (by decide)) (fun _ => ?_)
    refine lv_aload_n F.1 F.2.1 dX19_box_93 rfl (lv_at hl 1 rfl) ?_
    refine gf19_460 F ha10_0 hr dX19_box_94 ?_
    refine lv_iload_n F.1 F.2.1 dX19_box_97 rfl (lv_at hl 0 rfl) ?_
    obtain ⟨n11, en11⟩ : ∃ y : Nat, y = 16 * n1 + 5 := ⟨_, rfl⟩
    replace h := zl_sub en11 h
    replace h := zqc_some h
    obtain ⟨⟨hfr11, hca11, hcb11⟩, h⟩ := h
    refine zc_new (k := 15) (T := TX15) (N := 6) (fs := [.int 0, .int 0, .int 0, .int 0, .null, .null]) tyX15 tyX15_ok rfl inX15 zq_2140 zq_2141 zq_19 (zFx_k F hA) (zRC_of F hr) (by decide +kernel) (Nat.le_trans (Nat.le_of_ble_eq_true rfl) hca11) (Nat.le_trans (Nat.le_of_ble_eq_true rfl) hcb11) dX19_box_98 (fun q H hq => ?_)
    have hr := zRC_rep hq
    refine lv_dup F.1 F.2.1 dX19_box_101 rfl ?_
    refine zK_callN (cs := []) (As := []) (rest := [.ref q, .int (5 : Int32), .ref (B10 149 n1)]) hAO zn_2142 rfl zq_2143 zq_2144 zq_19 hdX15_init (okX15_init l D cy q ) (zFx_k F hA) hq hl.1 rfl (Nat.le_of_ble_eq_true rfl) dX19_box_102 ⟨Nat.le_of_ble_eq_true rfl, Nat.le_of_ble_eq_true rfl⟩ ⟨Nat.le_trans (Nat.le_of_ble_eq_true rfl) hca11, Nat.le_trans (Nat.le_of_ble_eq_true rfl) hcb11⟩ (fun H locs cs1 hp hq => ?_)
    obtain ⟨w1, w2, rfl⟩ := hp
    obtain ⟨B11, hB11, eo11, hst, hD11, h9, hr⟩ := zmkX15 hst h9 n11  hfr11 hq
    clear hq
    generalize eI11 : I10 ++ znmX15 n11 = I11 at hst hD11 h9 hr
    have F0 := F
    have F := zFx_nx F hst hD11
    have hi11 : ∀ k o, (k, o) ∈ I10 → (k, o) ∈ I11 := fun k o h => eI11 ▸ List.mem_append_left _ h
    have hn11 : (15, n11) ∈ I11 := eI11 ▸ List.mem_append_right _ (List.mem_of_getElem? (l := znmX15 n11) (i := 0) rfl)
    have hx := zExt_nx hx hB11 hi11
    obtain ⟨z46, ez46⟩ : ∃ y, y = zmg (znmX15 n11) (zmwX15 n11 ) z45 := ⟨_, rfl⟩
    rw [← ez46] at hr
    replace h := zl_sub ez46 h
    clear ez46
    replace h := zl_sub eI11.symm h
    have ha11_0 : (12, n1) ∈ I11 := hi11 _ _ ha10_0
    have ha11_1 : (19, x0) ∈ I11 := hi11 _ _ ha10_1
    have ha11_2 : (149, n1) ∈ I11 := hi11 _ _ (zal_a F0 ha10_0 (j := 12) rfl)
    replace hl : lv_has ls 4 [(3, .int (5 : Int32)), (2, .ref (B11 12 n1)), (0, .ref (B11 19 x0)), (1, .int (1 : Int32))] := by
            rw [hB11 12 n1 ha10_0, hB11 19 x0 ha10_1]; exact hl
    rw [← hB11 149 n1 (zal_a F0 ha10_0 (j := 12) rfl)]
    subst eo11
    refine zr_aast (k := 149) (v := (some n11)) (T := TX15) (N := 6) (by decide) rfl (by decide) rfl rfl F ha11_2 hr dX19_box_105 (by rw [zlen_d (by decide)]; exact (by unfold vp_in; decide)) (zal_s hn11) (fun H locs z48 ez48 hr => ?_)
    replace h := zl_sub ez48 h
    clear ez48
    refine lv_iinc (v := (6 : Int32)) (lv' := [(3, .int (6 : Int32)), (2, .ref (B11 12 n1)), (0, .ref (B11 19 x0)), (1, .int (1 : Int32))]) F.1 F.2.1 dX19_box_106 hl (k := 0) rfl (by decide) (by decide) rfl (fun ls hl => ?_)
    refine lv_goto (tgt := 76) F.1 F.2.1 dX19_box_109 (by decide) ?_
    refine lv_iload_n F.1 F.2.1 dX19_box_76 rfl (lv_at hl 0 rfl) ?_
    refine lv_bipush (v := (16 : Int32)) F.1 F.2.1 dX19_box_77 (by decide) ?_
    refine lv_icmp_ge (tgt := 112) F.1 F.2.1 dX19_box_79 (by decide) (fun hc => absurd hc (by decide)) (fun _ => ?_)
    refine lv_aload_n F.1 F.2.1 dX19_box_82 rfl (lv_at hl 1 rfl) ?_
    refine gf19_448 F ha11_0 hr dX19_box_83 ?_
    refine lv_iload_n F.1 F.2.1 dX19_box_86 rfl (lv_at hl 0 rfl) ?_
    refine lv_iconst (v := (-1 : Int32)) F.1 F.2.1 dX19_box_87 (by decide) ?_
    refine zr_iast (k := 150) (by decide) rfl (by decide) F (zal_a F ha11_0 (j := 14) rfl) hr dX19_box_88 (by unfold vp_in; decide) (fun H locs z50 ez50 hr => ?_)
    replace h := zl_sub ez50 h
    clear ez50
    refine lv_iload_n F.1 F.2.1 dX19_box_89 rfl (lv_at hl 3 rfl) ?_
    refine lv_if_eq (tgt := 106) F.1 F.2.1 dX19_box_90 (by decide) (fun hc => absurd hc (by decide)) (fun _ => ?_)
    refine lv_aload_n F.1 F.2.1 dX19_box_93 rfl (lv_at hl 1 rfl) ?_
    refine gf19_460 F ha11_0 hr dX19_box_94 ?_
    refine lv_iload_n F.1 F.2.1 dX19_box_97 rfl (lv_at hl 0 rfl) ?_
    obtain ⟨n12, en12⟩ : ∃ y : Nat, y = 16 * n1 + 6 := ⟨_, rfl⟩
    replace h := zl_sub en12 h
    replace h := zqc_some h
    obtain ⟨⟨hfr12, hca12, hcb12⟩, h⟩ := h
    refine zc_new (k := 15) (T := TX15) (N := 6) (fs := [.int 0, .int 0, .int 0, .int 0, .null, .null]) tyX15 tyX15_ok rfl inX15 zq_2140 zq_2141 zq_19 (zFx_k F hA) (zRC_of F hr) (by decide +kernel) (Nat.le_trans (Nat.le_of_ble_eq_true rfl) hca12) (Nat.le_trans (Nat.le_of_ble_eq_true rfl) hcb12) dX19_box_98 (fun q H hq => ?_)
    have hr := zRC_rep hq
    refine lv_dup F.1 F.2.1 dX19_box_101 rfl ?_
    refine zK_callN (cs := []) (As := []) (rest := [.ref q, .int (6 : Int32), .ref (B11 149 n1)]) hAO zn_2142 rfl zq_2143 zq_2144 zq_19 hdX15_init (okX15_init l D cy q ) (zFx_k F hA) hq hl.1 rfl (Nat.le_of_ble_eq_true rfl) dX19_box_102 ⟨Nat.le_of_ble_eq_true rfl, Nat.le_of_ble_eq_true rfl⟩ ⟨Nat.le_trans (Nat.le_of_ble_eq_true rfl) hca12, Nat.le_trans (Nat.le_of_ble_eq_true rfl) hcb12⟩ (fun H locs cs1 hp hq => ?_)
    obtain ⟨w1, w2, rfl⟩ := hp
    obtain ⟨B12, hB12, eo12, hst, hD12, h9, hr⟩ := zmkX15 hst h9 n12  hfr12 hq
    clear hq
    generalize eI12 : I11 ++ znmX15 n12 = I12 at hst hD12 h9 hr
    have F0 := F
    have F := zFx_nx F hst hD12
    have hi12 : ∀ k o, (k, o) ∈ I11 → (k, o) ∈ I12 := fun k o h => eI12 ▸ List.mem_append_left _ h
    have hn12 : (15, n12) ∈ I12 := eI12 ▸ List.mem_append_right _ (List.mem_of_getElem? (l := znmX15 n12) (i := 0) rfl)
    have hx := zExt_nx hx hB12 hi12
    obtain ⟨z51, ez51⟩ : ∃ y, y = zmg (znmX15 n12) (zmwX15 n12 ) z50 := ⟨_, rfl⟩
    rw [← ez51] at hr
    replace h := zl_sub ez51 h
    clear ez51
    replace h := zl_sub eI12.symm h
    have ha12_0 : (12, n1) ∈ I12 := hi12 _ _ ha11_0
    have ha12_1 : (19, x0) ∈ I12 := hi12 _ _ ha11_1
    have ha12_2 : (149, n1) ∈ I12 := hi12 _ _ (zal_a F0 ha11_0 (j := 12) rfl)
    replace hl : lv_has ls 4 [(3, .int (6 : Int32)), (2, .ref (B12 12 n1)), (0, .ref (B12 19 x0)), (1, .int (1 : Int32))] := by
            rw [hB12 12 n1 ha11_0, hB12 19 x0 ha11_1]; exact hl
    rw [← hB12 149 n1 (zal_a F0 ha11_0 (j := 12) rfl)]
    subst eo12
    refine zr_aast (k := 149) (v := (some n12)) (T := TX15) (N := 6) (by decide) rfl (by decide) rfl rfl F ha12_2 hr dX19_box_105 (by rw [zlen_d (by decide)]; exact (by unfold vp_in; decide)) (zal_s hn12) (fun H locs z53 ez53 hr => ?_)
    replace h := zl_sub ez53 h
    clear ez53
    refine lv_iinc (v := (7 : Int32)) (lv' := [(3, .int (7 : Int32)), (2, .ref (B12 12 n1)), (0, .ref (B12 19 x0)), (1, .int (1 : Int32))]) F.1 F.2.1 dX19_box_106 hl (k := 0) rfl (by decide) (by decide) rfl (fun ls hl => ?_)
    refine lv_goto (tgt := 76) F.1 F.2.1 dX19_box_109 (by decide) ?_
    refine lv_iload_n F.1 F.2.1 dX19_box_76 rfl (lv_at hl 0 rfl) ?_
    refine lv_bipush (v := (16 : Int32)) F.1 F.2.1 dX19_box_77 (by decide) ?_
    refine lv_icmp_ge (tgt := 112) F.1 F.2.1 dX19_box_79 (by decide) (fun hc => absurd hc (by decide)) (fun _ => ?_)
    refine lv_aload_n F.1 F.2.1 dX19_box_82 rfl (lv_at hl 1 rfl) ?_
    refine gf19_448 F ha12_0 hr dX19_box_83 ?_
    refine lv_iload_n F.1 F.2.1 dX19_box_86 rfl (lv_at hl 0 rfl) ?_
    refine lv_iconst (v := (-1 : Int32)) F.1 F.2.1 dX19_box_87 (by decide) ?_
    refine zr_iast (k := 150) (by decide) rfl (by decide) F (zal_a F ha12_0 (j := 14) rfl) hr dX19_box_88 (by unfold vp_in; decide) (fun H locs z55 ez55 hr => ?_)
    replace h := zl_sub ez55 h
    clear ez55
    refine lv_iload_n F.1 F.2.1 dX19_box_89 rfl (lv_at hl 3 rfl) ?_
    refine lv_if_eq (tgt := 106) F.1 F.2.1 dX19_box_90 (by decide) (fun hc => absurd hc (by decide)) (fun _ => ?_)
    refine lv_aload_n F.1 F.2.1 dX19_box_93 rfl (lv_at hl 1 rfl) ?_
    refine gf19_460 F ha12_0 hr dX19_box_94 ?_
    refine lv_iload_n F.1 F.2.1 dX19_box_97 rfl (lv_at hl 0 rfl) ?_
    obtain ⟨n13, en13⟩ : ∃ y : Nat, y = 16 * n1 + 7 := ⟨_, rfl⟩
    replace h := zl_sub en13 h
    replace h := zqc_some h
    obtain ⟨⟨hfr13, hca13, hcb13⟩, h⟩ := h
    refine zc_new (k := 15) (T := TX15) (N := 6) (fs := [.int 0, .int 0, .int 0, .int 0, .null, .null]) tyX15 tyX15_ok rfl inX15 zq_2140 zq_2141 zq_19 (zFx_k F hA) (zRC_of F hr) (by decide +kernel) (Nat.le_trans (Nat.le_of_ble_eq_true rfl) hca13) (Nat.le_trans (Nat.le_of_ble_eq_true rfl) hcb13) dX19_box_98 (fun q H hq => ?_)
    have hr := zRC_rep hq
    refine lv_dup F.1 F.2.1 dX19_box_101 rfl ?_
    refine zK_callN (cs := []) (As := []) (rest := [.ref q, .int (7 : Int32), .ref (B12 149 n1)]) hAO zn_2142 rfl zq_2143 zq_2144 zq_19 hdX15_init (okX15_init l D cy q ) (zFx_k F hA) hq hl.1 rfl (Nat.le_of_ble_eq_true rfl) dX19_box_102 ⟨Nat.le_of_ble_eq_true rfl, Nat.le_of_ble_eq_true rfl⟩ ⟨Nat.le_trans (Nat.le_of_ble_eq_true rfl) hca13, Nat.le_trans (Nat.le_of_ble_eq_true rfl) hcb13⟩ (fun H locs cs1 hp hq => ?_)
    obtain ⟨w1, w2, rfl⟩ := hp
    obtain ⟨B13, hB13, eo13, hst, hD13, h9, hr⟩ := zmkX15 hst h9 n13  hfr13 hq
    clear hq
    generalize eI13 : I12 ++ znmX15 n13 = I13 at hst hD13 h9 hr
    have F0 := F
    have F := zFx_nx F hst hD13
    have hi13 : ∀ k o, (k, o) ∈ I12 → (k, o) ∈ I13 := fun k o h => eI13 ▸ List.mem_append_left _ h
    have hn13 : (15, n13) ∈ I13 := eI13 ▸ List.mem_append_right _ (List.mem_of_getElem? (l := znmX15 n13) (i := 0) rfl)
    have hx := zExt_nx hx hB13 hi13
    obtain ⟨z56, ez56⟩ : ∃ y, y = zmg (znmX15 n13) (zmwX15 n13 ) z55 := ⟨_, rfl⟩
    rw [← ez56] at hr
    replace h := zl_sub ez56 h
    clear ez56
    replace h := zl_sub eI13.symm h
    have ha13_0 : (12, n1) ∈ I13 := hi13 _ _ ha12_0
    have ha13_1 : (19, x0) ∈ I13 := hi13 _ _ ha12_1
    have ha13_2 : (149, n1) ∈ I13 := hi13 _ _ (zal_a F0 ha12_0 (j := 12) rfl)
    replace hl : lv_has ls 4 [(3, .int (7 : Int32)), (2, .ref (B13 12 n1)), (0, .ref (B13 19 x0)), (1, .int (1 : Int32))] := by
            rw [hB13 12 n1 ha12_0, hB13 19 x0 ha12_1]; exact hl
    rw [← hB13 149 n1 (zal_a F0 ha12_0 (j := 12) rfl)]
    subst eo13
    refine zr_aast (k := 149) (v := (some n13)) (T := TX15) (N := 6) (by decide) rfl (by decide) rfl rfl F ha13_2 hr dX19_box_105 (by rw [zlen_d (by decide)]; exact (by unfold vp_in; decide)) (zal_s hn13) (fun H locs z58 ez58 hr => ?_)
    replace h := zl_sub ez58 h
    clear ez58
    refine lv_iinc (v := (8 : Int32)) (lv' := [(3, .int (8 : Int32)), (2, .ref (B13 12 n1)), (0, .ref (B13 19 x0)), (1, .int (1 : Int32))]) F.1 F.2.1 dX19_box_106 hl (k := 0) rfl (by decide) (by decide) rfl (fun ls hl => ?_)
    refine lv_goto (tgt := 76) F.1 F.2.1 dX19_box_109 (by decide) ?_
    refine lv_iload_n F.1 F.2.1 dX19_box_76 rfl (lv_at hl 0 rfl) ?_
    refine lv_bipush (v := (16 : Int32)) F.1 F.2.1 dX19_box_77 (by decide) ?_
    refine lv_icmp_ge (tgt := 112) F.1 F.2.1 dX19_box_79 (by decide) (fun hc => absurd hc (by decide)) (fun _ => ?_)
    refine lv_aload_n F.1 F.2.1 dX19_box_82 rfl (lv_at hl 1 rfl) ?_
    refine gf19_448 F ha13_0 hr dX19_box_83 ?_
    refine lv_iload_n F.1 F.2.1 dX19_box_86 rfl (lv_at hl 0 rfl) ?_
    refine lv_iconst (v := (-1 : Int32)) F.1 F.2.1 dX19_box_87 (by decide) ?_
    refine zr_iast (k := 150) (by decide) rfl (by decide) F (zal_a F ha13_0 (j := 14) rfl) hr dX19_box_88 (by unfold vp_in; decide) (fun H locs z60 ez60 hr => ?_)
    replace h := zl_sub ez60 h
    clear ez60
    refine lv_iload_n F.1 F.2.1 dX19_box_89 rfl (lv_at hl 3 rfl) ?_
    refine lv_if_eq (tgt := 106) F.1 F.2.1 dX19_box_90 (by decide) (fun hc => absurd hc (by decide)) (fun _ => ?_)
    refine lv_aload_n F.1 F.2.1 dX19_box_93 rfl (lv_at hl 1 rfl) ?_
    refine gf19_460 F ha13_0 hr dX19_box_94 ?_
    refine lv_iload_n F.1 F.2.1 dX19_box_97 rfl (lv_at hl 0 rfl) ?_
    obtain ⟨n14, en14⟩ : ∃ y : Nat, y = 16 * n1 + 8 := ⟨_, rfl⟩
    replace h := zl_sub en14 h
    replace h := zqc_some h
    obtain ⟨⟨hfr14, hca14, hcb14⟩, h⟩ := h
    refine zc_new (k := 15) (T := TX15) (N := 6) (fs := [.int 0, .int 0, .int 0, .int 0, .null, .null]) tyX15 tyX15_ok rfl inX15 zq_2140 zq_2141 zq_19 (zFx_k F hA) (zRC_of F hr) (by decide +kernel) (Nat.le_trans (Nat.le_of_ble_eq_true rfl) hca14) (Nat.le_trans (Nat.le_of_ble_eq_true rfl) hcb14) dX19_box_98 (fun q H hq => ?_)
    have hr := zRC_rep hq
    refine lv_dup F.1 F.2.1 dX19_box_101 rfl ?_
    refine zK_callN (cs := []) (As := []) (rest := [.ref q, .int (8 : Int32), .ref (B13 149 n1)]) hAO zn_2142 rfl zq_2143 zq_2144 zq_19 hdX15_init (okX15_init l D cy q ) (zFx_k F hA) hq hl.1 rfl (Nat.le_of_ble_eq_true rfl) dX19_box_102 ⟨Nat.le_of_ble_eq_true rfl, Nat.le_of_ble_eq_true rfl⟩ ⟨Nat.le_trans (Nat.le_of_ble_eq_true rfl) hca14, Nat.le_trans (Nat.le_of_ble_eq_true rfl) hcb14⟩ (fun H locs cs1 hp hq => ?_)
    obtain ⟨w1, w2, rfl⟩ := hp
    obtain ⟨B14, hB14, eo14, hst, hD14, h9, hr⟩ := zmkX15 hst h9 n14  hfr14 hq
    clear hq
    generalize eI14 : I13 ++ znmX15 n14 = I14 at hst hD14 h9 hr
    have F0 := F
    have F := zFx_nx F hst hD14
    have hi14 : ∀ k o, (k, o) ∈ I13 → (k, o) ∈ I14 := fun k o h => eI14 ▸ List.mem_append_left _ h
    have hn14 : (15, n14) ∈ I14 := eI14 ▸ List.mem_append_right _ (List.mem_of_getElem? (l := znmX15 n14) (i := 0) rfl)
    have hx := zExt_nx hx hB14 hi14
    obtain ⟨z61, ez61⟩ : ∃ y, y = zmg (znmX15 n14) (zmwX15 n14 ) z60 := ⟨_, rfl⟩
    rw [← ez61] at hr
    replace h := zl_sub ez61 h
    clear ez61
    replace h := zl_sub eI14.symm h
    have ha14_0 : (12, n1) ∈ I14 := hi14 _ _ ha13_0
    have ha14_1 : (19, x0) ∈ I14 := hi14 _ _ ha13_1
    have ha14_2 : (149, n1) ∈ I14 := hi14 _ _ (zal_a F0 ha13_0 (j := 12) rfl)
    replace hl : lv_has ls 4 [(3, .int (8 : Int32)), (2, .ref (B14 12 n1)), (0, .ref (B14 19 x0)), (1, .int (1 : Int32))] := by
            rw [hB14 12 n1 ha13_0, hB14 19 x0 ha13_1]; exact hl
    rw [← hB14 149 n1 (zal_a F0 ha13_0 (j := 12) rfl)]
    subst eo14
    refine zr_aast (k := 149) (v := (some n14)) (T := TX15) (N := 6) (by decide) rfl (by decide) rfl rfl F ha14_2 hr dX19_box_105 (by rw [zlen_d (by decide)]; exact (by unfold vp_in; decide)) (zal_s hn14) (fun H locs z63 ez63 hr => ?_)
    replace h := zl_sub ez63 h
    clear ez63
    refine lv_iinc (v := (9 : Int32)) (lv' := [(3, .int (9 : Int32)), (2, .ref (B14 12 n1)), (0, .ref (B14 19 x0)), (1, .int (1 : Int32))]) F.1 F.2.1 dX19_box_106 hl (k := 0) rfl (by decide) (by decide) rfl (fun ls hl => ?_)
    refine lv_goto (tgt := 76) F.1 F.2.1 dX19_box_109 (by decide) ?_
    refine lv_iload_n F.1 F.2.1 dX19_box_76 rfl (lv_at hl 0 rfl) ?_
    refine lv_bipush (v := (16 : Int32)) F.1 F.2.1 dX19_box_77 (by decide) ?_
    refine lv_icmp_ge (tgt := 112) F.1 F.2.1 dX19_box_79 (by decide) (fun hc => absurd hc (by decide)) (fun _ => ?_)
    refine lv_aload_n F.1 F.2.1 dX19_box_82 rfl (lv_at hl 1 rfl) ?_
    refine gf19_448 F ha14_0 hr dX19_box_83 ?_
    refine lv_iload_n F.1 F.2.1 dX19_box_86 rfl (lv_at hl 0 rfl) ?_
    refine lv_iconst (v := (-1 : Int32)) F.1 F.2.1 dX19_box_87 (by decide) ?_
    refine zr_iast (k := 150) (by decide) rfl (by decide) F (zal_a F ha14_0 (j := 14) rfl) hr dX19_box_88 (by unfold vp_in; decide) (fun H locs z65 ez65 hr => ?_)
    replace h := zl_sub ez65 h
    clear ez65
    refine lv_iload_n F.1 F.2.1 dX19_box_89 rfl (lv_at hl 3 rfl) ?_
    refine lv_if_eq (tgt := 106) F.1 F.2.1 dX19_box_90 (by decide) (fun hc => absurd hc (by decide)) (fun _ => ?_)
    refine lv_aload_n F.1 F.2.1 dX19_box_93 rfl (lv_at hl 1 rfl) ?_
    refine gf19_460 F ha14_0 hr dX19_box_94 ?_
    refine lv_iload_n F.1 F.2.1 dX19_box_97 rfl (lv_at hl 0 rfl) ?_
    obtain ⟨n15, en15⟩ : ∃ y : Nat, y = 16 * n1 + 9 := ⟨_, rfl⟩
    replace h := zl_sub en15 h
    replace h := zqc_some h
    obtain ⟨⟨hfr15, hca15, hcb15⟩, h⟩ := h
    refine zc_new (k := 15) (T := TX15) (N := 6) (fs := [.int 0, .int 0, .int 0, .int 0, .null, .null]) tyX15 tyX15_ok rfl inX15 zq_2140 zq_2141 zq_19 (zFx_k F hA) (zRC_of F hr) (by decide +kernel) (Nat.le_trans (Nat.le_of_ble_eq_true rfl) hca15) (Nat.le_trans (Nat.le_of_ble_eq_true rfl) hcb15) dX19_box_98 (fun q H hq => ?_)
    have hr := zRC_rep hq
    refine lv_dup F.1 F.2.1 dX19_box_101 rfl ?_
    refine zK_callN (cs := []) (As := []) (rest := [.ref q, .int (9 : Int32), .ref (B14 149 n1)]) hAO zn_2142 rfl zq_2143 zq_2144 zq_19 hdX15_init (okX15_init l D cy q ) (zFx_k F hA) hq hl.1 rfl (Nat.le_of_ble_eq_true rfl) dX19_box_102 ⟨Nat.le_of_ble_eq_true rfl, Nat.le_of_ble_eq_true rfl⟩ ⟨Nat.le_trans (Nat.le_of_ble_eq_true rfl) hca15, Nat.le_trans (Nat.le_of_ble_eq_true rfl) hcb15⟩ (fun H locs cs1 hp hq => ?_)
    obtain ⟨w1, w2, rfl⟩ := hp
    obtain ⟨B15, hB15, eo15, hst, hD15, h9, hr⟩ := zmkX15 hst h9 n15  hfr15 hq
    clear hq
    generalize eI15 : I14 ++ znmX15 n15 = I15 at hst hD15 h9 hr
    have F0 := F
    have F := zFx_nx F hst hD15
    have hi15 : ∀ k o, (k, o) ∈ I14 → (k, o) ∈ I15 := fun k o h => eI15 ▸ List.mem_append_left _ h
    have hn15 : (15, n15) ∈ I15 := eI15 ▸ List.mem_append_right _ (List.mem_of_getElem? (l := znmX15 n15) (i := 0) rfl)
    have hx := zExt_nx hx hB15 hi15
    obtain ⟨z66, ez66⟩ : ∃ y, y = zmg (znmX15 n15) (zmwX15 n15 ) z65 := ⟨_, rfl⟩
    rw [← ez66] at hr
    replace h := zl_sub ez66 h
    clear ez66
    replace h := zl_sub eI15.symm h
    have ha15_0 : (12, n1) ∈ I15 := hi15 _ _ ha14_0
    have ha15_1 : (19, x0) ∈ I15 := hi15 _ _ ha14_1
    have ha15_2 : (149, n1) ∈ I15 := hi15 _ _ (zal_a F0 ha14_0 (j := 12) rfl)
    replace hl : lv_has ls 4 [(3, .int (9 : Int32)), (2, .ref (B15 12 n1)), (0, .ref (B15 19 x0)), (1, .int (1 : Int32))] := by
            rw [hB15 12 n1 ha14_0, hB15 19 x0 ha14_1]; exact hl
    rw [← hB15 149 n1 (zal_a F0 ha14_0 (j := 12) rfl)]
    subst eo15
    refine zr_aast (k := 149) (v := (some n15)) (T := TX15) (N := 6) (by decide) rfl (by decide) rfl rfl F ha15_2 hr dX19_box_105 (by rw [zlen_d (by decide)]; exact (by unfold vp_in; decide)) (zal_s hn15) (fun H locs z68 ez68 hr => ?_)
    replace h := zl_sub ez68 h
    clear ez68
    refine lv_iinc (v := (10 : Int32)) (lv' := [(3, .int (10 : Int32)), (2, .ref (B15 12 n1)), (0, .ref (B15 19 x0)), (1, .int (1 : Int32))]) F.1 F.2.1 dX19_box_106 hl (k := 0) rfl (by decide) (by decide) rfl (fun ls hl => ?_)
    refine lv_goto (tgt := 76) F.1 F.2.1 dX19_box_109 (by decide) ?_
    refine lv_iload_n F.1 F.2.1 dX19_box_76 rfl (lv_at hl 0 rfl) ?_
    refine lv_bipush (v := (16 : Int32)) F.1 F.2.1 dX19_box_77 (by decide) ?_
    refine lv_icmp_ge (tgt := 112) F.1 F.2.1 dX19_box_79 (by decide) (fun hc => absurd hc (by decide)) (fun _ => ?_)
    refine lv_aload_n F.1 F.2.1 dX19_box_82 rfl (lv_at hl 1 rfl) ?_
    refine gf19_448 F ha15_0 hr dX19_box_83 ?_
    refine lv_iload_n F.1 F.2.1 dX19_box_86 rfl (lv_at hl 0 rfl) ?_
    refine lv_iconst (v := (-1 : Int32)) F.1 F.2.1 dX19_box_87 (by decide) ?_
    refine zr_iast (k := 150) (by decide) rfl (by decide) F (zal_a F ha15_0 (j := 14) rfl) hr dX19_box_88 (by unfold vp_in; decide) (fun H locs z70 ez70 hr => ?_)
    replace h := zl_sub ez70 h
    clear ez70
    refine lv_iload_n F.1 F.2.1 dX19_box_89 rfl (lv_at hl 3 rfl) ?_
    refine lv_if_eq (tgt := 106) F.1 F.2.1 dX19_box_90 (by decide) (fun hc => absurd hc (by decide)) (fun _ => ?_)
    refine lv_aload_n F.1 F.2.1 dX19_box_93 rfl (lv_at hl 1 rfl) ?_
    refine gf19_460 F ha15_0 hr dX19_box_94 ?_
    refine lv_iload_n F.1 F.2.1 dX19_box_97 rfl (lv_at hl 0 rfl) ?_
    obtain ⟨n16, en16⟩ : ∃ y : Nat, y = 16 * n1 + 10 := ⟨_, rfl⟩
    replace h := zl_sub en16 h
    replace h := zqc_some h
    obtain ⟨⟨hfr16, hca16, hcb16⟩, h⟩ := h
    refine zc_new (k := 15) (T := TX15) (N := 6) (fs := [.int 0, .int 0, .int 0, .int 0, .null, .null]) tyX15 tyX15_ok rfl inX15 zq_2140 zq_2141 zq_19 (zFx_k F hA) (zRC_of F hr) (by decide +kernel) (Nat.le_trans (Nat.le_of_ble_eq_true rfl) hca16) (Nat.le_trans (Nat.le_of_ble_eq_true rfl) hcb16) dX19_box_98 (fun q H hq => ?_)
    have hr := zRC_rep hq
    refine lv_dup F.1 F.2.1 dX19_box_101 rfl ?_
    refine zK_callN (cs := []) (As := []) (rest := [.ref q, .int (10 : Int32), .ref (B15 149 n1)]) hAO zn_2142 rfl zq_2143 zq_2144 zq_19 hdX15_init (okX15_init l D cy q ) (zFx_k F hA) hq hl.1 rfl (Nat.le_of_ble_eq_true rfl) dX19_box_102 ⟨Nat.le_of_ble_eq_true rfl, Nat.le_of_ble_eq_true rfl⟩ ⟨Nat.le_trans (Nat.le_of_ble_eq_true rfl) hca16, Nat.le_trans (Nat.le_of_ble_eq_true rfl) hcb16⟩ (fun H locs cs1 hp hq => ?_)
    obtain ⟨w1, w2, rfl⟩ := hp
    obtain ⟨B16, hB16, eo16, hst, hD16, h9, hr⟩ := zmkX15 hst h9 n16  hfr16 hq
    clear hq
    generalize eI16 : I15 ++ znmX15 n16 = I16 at hst hD16 h9 hr
    have F0 := F
    have F := zFx_nx F hst hD16
    have hi16 : ∀ k o, (k, o) ∈ I15 → (k, o) ∈ I16 := fun k o h => eI16 ▸ List.mem_append_left _ h
    have hn16 : (15, n16) ∈ I16 := eI16 ▸ List.mem_append_right _ (List.mem_of_getElem? (l := znmX15 n16) (i := 0) rfl)
    have hx := zExt_nx hx hB16 hi16
    obtain ⟨z71, ez71⟩ : ∃ y, y = zmg (znmX15 n16) (zmwX15 n16 ) z70 := ⟨_, rfl⟩
    rw [← ez71] at hr
    replace h := zl_sub ez71 h
    clear ez71
    replace h := zl_sub eI16.symm h
    have ha16_0 : (12, n1) ∈ I16 := hi16 _ _ ha15_0
    have ha16_1 : (19, x0) ∈ I16 := hi16 _ _ ha15_1
    have ha16_2 : (149, n1) ∈ I16 := hi16 _ _ (zal_a F0 ha15_0 (j := 12) rfl)
    replace hl : lv_has ls 4 [(3, .int (10 : Int32)), (2, .ref (B16 12 n1)), (0, .ref (B16 19 x0)), (1, .int (1 : Int32))] := by
            rw [hB16 12 n1 ha15_0, hB16 19 x0 ha15_1]; exact hl
    rw [← hB16 149 n1 (zal_a F0 ha15_0 (j := 12) rfl)]
    subst eo16
    refine zr_aast (k := 149) (v := (some n16)) (T := TX15) (N := 6) (by decide) rfl (by decide) rfl rfl F ha16_2 hr dX19_box_105 (by rw [zlen_d (by decide)]; exact (by unfold vp_in; decide)) (zal_s hn16) (fun H locs z73 ez73 hr => ?_)
    replace h := zl_sub ez73 h
    clear ez73
    refine lv_iinc (v := (11 : Int32)) (lv' := [(3, .int (11 : Int32)), (2, .ref (B16 12 n1)), (0, .ref (B16 19 x0)), (1, .int (1 : Int32))]) F.1 F.2.1 dX19_box_106 hl (k := 0) rfl (by decide) (by decide) rfl (fun ls hl => ?_)
    refine lv_goto (tgt := 76) F.1 F.2.1 dX19_box_109 (by decide) ?_
    refine lv_iload_n F.1 F.2.1 dX19_box_76 rfl (lv_at hl 0 rfl) ?_
    refine lv_bipush (v := (16 : Int32)) F.1 F.2.1 dX19_box_77 (by decide) ?_
    refine lv_icmp_ge (tgt := 112) F.1 F.2.1 dX19_box_79 (by decide) (fun hc => absurd hc (by decide)) (fun _ => ?_)
    refine lv_aload_n F.1 F.2.1 dX19_box_82 rfl (lv_at hl 1 rfl) ?_
    refine gf19_448 F ha16_0 hr dX19_box_83 ?_
    refine lv_iload_n F.1 F.2.1 dX19_box_86 rfl (lv_at hl 0 rfl) ?_
    refine lv_iconst (v := (-1 : Int32)) F.1 F.2.1 dX19_box_87 (by decide) ?_
    refine zr_iast (k := 150) (by decide) rfl (by decide) F (zal_a F ha16_0 (j := 14) rfl) hr dX19_box_88 (by unfold vp_in; decide) (fun H locs z75 ez75 hr => ?_)
    replace h := zl_sub ez75 h
    clear ez75
    refine lv_iload_n F.1 F.2.1 dX19_box_89 rfl (lv_at hl 3 rfl) ?_
    refine lv_if_eq (tgt := 106) F.1 F.2.1 dX19_box_90 (by decide) (fun hc => absurd hc (by decide)) (fun _ => ?_)
    refine lv_aload_n F.1 F.2.1 dX19_box_93 rfl (lv_at hl 1 rfl) ?_
    refine gf19_460 F ha16_0 hr dX19_box_94 ?_
    refine lv_iload_n F.1 F.2.1 dX19_box_97 rfl (lv_at hl 0 rfl) ?_
    obtain ⟨n17, en17⟩ : ∃ y : Nat, y = 16 * n1 + 11 := ⟨_, rfl⟩
    replace h := zl_sub en17 h
    replace h := zqc_some h
    obtain ⟨⟨hfr17, hca17, hcb17⟩, h⟩ := h
    refine zc_new (k := 15) (T := TX15) (N := 6) (fs := [.int 0, .int 0, .int 0, .int 0, .null, .null]) tyX15 tyX15_ok rfl inX15 zq_2140 zq_2141 zq_19 (zFx_k F hA) (zRC_of F hr) (by decide +kernel) (Nat.le_trans (Nat.le_of_ble_eq_true rfl) hca17) (Nat.le_trans (Nat.le_of_ble_eq_true rfl) hcb17) dX19_box_98 (fun q H hq => ?_)
    have hr := zRC_rep hq
    refine lv_dup F.1 F.2.1 dX19_box_101 rfl ?_
    refine zK_callN (cs := []) (As := []) (rest := [.ref q, .int (11 : Int32), .ref (B16 149 n1)]) hAO zn_2142 rfl zq_2143 zq_2144 zq_19 hdX15_init (okX15_init l D cy q ) (zFx_k F hA) hq hl.1 rfl (Nat.le_of_ble_eq_true rfl) dX19_box_102 ⟨Nat.le_of_ble_eq_true rfl, Nat.le_of_ble_eq_true rfl⟩ ⟨Nat.le_trans (Nat.le_of_ble_eq_true rfl) hca17, Nat.le_trans (Nat.le_of_ble_eq_true rfl) hcb17⟩ (fun H locs cs1 hp hq => ?_)
    obtain ⟨w1, w2, rfl⟩ := hp
    obtain ⟨B17, hB17, eo17, hst, hD17, h9, hr⟩ := zmkX15 hst h9 n17  hfr17 hq
    clear hq
    generalize eI17 : I16 ++ znmX15 n17 = I17 at hst hD17 h9 hr
    have F0 := F
    have F := zFx_nx F hst hD17
    have hi17 : ∀ k o, (k, o) ∈ I16 → (k, o) ∈ I17 := fun k o h => eI17 ▸ List.mem_append_left _ h
    have hn17 : (15, n17) ∈ I17 := eI17 ▸ List.mem_append_right _ (List.mem_of_getElem? (l := znmX15 n17) (i := 0) rfl)
    have hx := zExt_nx hx hB17 hi17
    obtain ⟨z76, ez76⟩ : ∃ y, y = zmg (znmX15 n17) (zmwX15 n17 ) z75 := ⟨_, rfl⟩
    rw [← ez76] at hr
    replace h := zl_sub ez76 h
    clear ez76
    replace h := zl_sub eI17.symm h
    have ha17_0 : (12, n1) ∈ I17 := hi17 _ _ ha16_0
    have ha17_1 : (19, x0) ∈ I17 := hi17 _ _ ha16_1
    have ha17_2 : (149, n1) ∈ I17 := hi17 _ _ (zal_a F0 ha16_0 (j := 12) rfl)
    replace hl : lv_has ls 4 [(3, .int (11 : Int32)), (2, .ref (B17 12 n1)), (0, .ref (B17 19 x0)), (1, .int (1 : Int32))] := by
            rw [hB17 12 n1 ha16_0, hB17 19 x0 ha16_1]; exact hl
    rw [← hB17 149 n1 (zal_a F0 ha16_0 (j := 12) rfl)]
    subst eo17
    refine zr_aast (k := 149) (v := (some n17)) (T := TX15) (N := 6) (by decide) rfl (by decide) rfl rfl F ha17_2 hr dX19_box_105 (by rw [zlen_d (by decide)]; exact (by unfold vp_in; decide)) (zal_s hn17) (fun H locs z78 ez78 hr => ?_)
    replace h := zl_sub ez78 h
    clear ez78
    refine lv_iinc (v := (12 : Int32)) (lv' := [(3, .int (12 : Int32)), (2, .ref (B17 12 n1)), (0, .ref (B17 19 x0)), (1, .int (1 : Int32))]) F.1 F.2.1 dX19_box_106 hl (k := 0) rfl (by decide) (by decide) rfl (fun ls hl => ?_)
    refine lv_goto (tgt := 76) F.1 F.2.1 dX19_box_109 (by decide) ?_
    refine lv_iload_n F.1 F.2.1 dX19_box_76 rfl (lv_at hl 0 rfl) ?_
    refine lv_bipush (v := (16 : Int32)) F.1 F.2.1 dX19_box_77 (by decide) ?_
    refine lv_icmp_ge (tgt := 112) F.1 F.2.1 dX19_box_79 (by decide) (fun hc => absurd hc (by decide)) (fun _ => ?_)
    refine lv_aload_n F.1 F.2.1 dX19_box_82 rfl (lv_at hl 1 rfl) ?_
    refine gf19_448 F ha17_0 hr dX19_box_83 ?_
    refine lv_iload_n F.1 F.2.1 dX19_box_86 rfl (lv_at hl 0 rfl) ?_
    refine lv_iconst (v := (-1 : Int32)) F.1 F.2.1 dX19_box_87 (by decide) ?_
    refine zr_iast (k := 150) (by decide) rfl (by decide) F (zal_a F ha17_0 (j := 14) rfl) hr dX19_box_88 (by unfold vp_in; decide) (fun H locs z80 ez80 hr => ?_)
    replace h := zl_sub ez80 h
    clear ez80
    refine lv_iload_n F.1 F.2.1 dX19_box_89 rfl (lv_at hl 3 rfl) ?_
    refine lv_if_eq (tgt := 106) F.1 F.2.1 dX19_box_90 (by decide) (fun hc => absurd hc (by decide)) (fun _ => ?_)
    refine lv_aload_n F.1 F.2.1 dX19_box_93 rfl (lv_at hl 1 rfl) ?_
    refine gf19_460 F ha17_0 hr dX19_box_94 ?_
    refine lv_iload_n F.1 F.2.1 dX19_box_97 rfl (lv_at hl 0 rfl) ?_
    obtain ⟨n18, en18⟩ : ∃ y : Nat, y = 16 * n1 + 12 := ⟨_, rfl⟩
    replace h := zl_sub en18 h
    replace h := zqc_some h
    obtain ⟨⟨hfr18, hca18, hcb18⟩, h⟩ := h
    refine zc_new (k := 15) (T := TX15) (N := 6) (fs := [.int 0, .int 0, .int 0, .int 0, .null, .null]) tyX15 tyX15_ok rfl inX15 zq_2140 zq_2141 zq_19 (zFx_k F hA) (zRC_of F hr) (by decide +kernel) (Nat.le_trans (Nat.le_of_ble_eq_true rfl) hca18) (Nat.le_trans (Nat.le_of_ble_eq_true rfl) hcb18) dX19_box_98 (fun q H hq => ?_)
    have hr := zRC_rep hq
    refine lv_dup F.1 F.2.1 dX19_box_101 rfl ?_
    refine zK_callN (cs := []) (As := []) (rest := [.ref q, .int (12 : Int32), .ref (B17 149 n1)]) hAO zn_2142 rfl zq_2143 zq_2144 zq_19 hdX15_init (okX15_init l D cy q ) (zFx_k F hA) hq hl.1 rfl (Nat.le_of_ble_eq_true rfl) dX19_box_102 ⟨Nat.le_of_ble_eq_true rfl, Nat.le_of_ble_eq_true rfl⟩ ⟨Nat.le_trans (Nat.le_of_ble_eq_true rfl) hca18, Nat.le_trans (Nat.le_of_ble_eq_true rfl) hcb18⟩ (fun H locs cs1 hp hq => ?_)
    obtain ⟨w1, w2, rfl⟩ := hp
    obtain ⟨B18, hB18, eo18, hst, hD18, h9, hr⟩ := zmkX15 hst h9 n18  hfr18 hq
    clear hq
    generalize eI18 : I17 ++ znmX15 n18 = I18 at hst hD18 h9 hr
    have F0 := F
    have F := zFx_nx F hst hD18
    have hi18 : ∀ k o, (k, o) ∈ I17 → (k, o) ∈ I18 := fun k o h => eI18 ▸ List.mem_append_left _ h
    have hn18 : (15, n18) ∈ I18 := eI18 ▸ List.mem_append_right _ (List.mem_of_getElem? (l := znmX15 n18) (i := 0) rfl)
    have hx := zExt_nx hx hB18 hi18
    obtain ⟨z81, ez81⟩ : ∃ y, y = zmg (znmX15 n18) (zmwX15 n18 ) z80 := ⟨_, rfl⟩
    rw [← ez81] at hr
    replace h := zl_sub ez81 h
    clear ez81
    replace h := zl_sub eI18.symm h
    have ha18_0 : (12, n1) ∈ I18 := hi18 _ _ ha17_0
    have ha18_1 : (19, x0) ∈ I18 := hi18 _ _ ha17_1
    have ha18_2 : (149, n1) ∈ I18 := hi18 _ _ (zal_a F0 ha17_0 (j := 12) rfl)
    replace hl : lv_has ls 4 [(3, .int (12 : Int32)), (2, .ref (B18 12 n1)), (0, .ref (B18 19 x0)), (1, .int (1 : Int32))] := by
            rw [hB18 12 n1 ha17_0, hB18 19 x0 ha17_1]; exact hl
    rw [← hB18 149 n1 (zal_a F0 ha17_0 (j := 12) rfl)]
    subst eo18
    refine zr_aast (k := 149) (v := (some n18)) (T := TX15) (N := 6) (by decide) rfl (by decide) rfl rfl F ha18_2 hr dX19_box_105 (by rw [zlen_d (by decide)]; exact (by unfold vp_in; decide)) (zal_s hn18) (fun H locs z83 ez83 hr => ?_)
    replace h := zl_sub ez83 h
    clear ez83
    refine lv_iinc (v := (13 : Int32)) (lv' := [(3, .int (13 : Int32)), (2, .ref (B18 12 n1)), (0, .ref (B18 19 x0)), (1, .int (1 : Int32))]) F.1 F.2.1 dX19_box_106 hl (k := 0) rfl (by decide) (by decide) rfl (fun ls hl => ?_)
    refine lv_goto (tgt := 76) F.1 F.2.1 dX19_box_109 (by decide) ?_
    refine lv_iload_n F.1 F.2.1 dX19_box_76 rfl (lv_at hl 0 rfl) ?_
    refine lv_bipush (v := (16 : Int32)) F.1 F.2.1 dX19_box_77 (by decide) ?_
    refine lv_icmp_ge (tgt := 112) F.1 F.2.1 dX19_box_79 (by decide) (fun hc => absurd hc (by decide)) (fun _ => ?_)
    refine lv_aload_n F.1 F.2.1 dX19_box_82 rfl (lv_at hl 1 rfl) ?_
    refine gf19_448 F ha18_0 hr dX19_box_83 ?_
    refine lv_iload_n F.1 F.2.1 dX19_box_86 rfl (lv_at hl 0 rfl) ?_
    refine lv_iconst (v := (-1 : Int32)) F.1 F.2.1 dX19_box_87 (by decide) ?_
    refine zr_iast (k := 150) (by decide) rfl (by decide) F (zal_a F ha18_0 (j := 14) rfl) hr dX19_box_88 (by unfold vp_in; decide) (fun H locs z85 ez85 hr => ?_)
    replace h := zl_sub ez85 h
    clear ez85
    refine lv_iload_n F.1 F.2.1 dX19_box_89 rfl (lv_at hl 3 rfl) ?_
    refine lv_if_eq (tgt := 106) F.1 F.2.1 dX19_box_90 (by decide) (fun hc => absurd hc (by decide)) (fun _ => ?_)
    refine lv_aload_n F.1 F.2.1 dX19_box_93 rfl (lv_at hl 1 rfl) ?_
    refine gf19_460 F ha18_0 hr dX19_box_94 ?_
    refine lv_iload_n F.1 F.2.1 dX19_box_97 rfl (lv_at hl 0 rfl) ?_
    obtain ⟨n19, en19⟩ : ∃ y : Nat, y = 16 * n1 + 13 := ⟨_, rfl⟩
    replace h := zl_sub en19 h
    replace h := zqc_some h
    obtain ⟨⟨hfr19, hca19, hcb19⟩, h⟩ := h
    refine zc_new (k := 15) (T := TX15) (N := 6) (fs := [.int 0, .int 0, .int 0, .int 0, .null, .null]) tyX15 tyX15_ok rfl inX15 zq_2140 zq_2141 zq_19 (zFx_k F hA) (zRC_of F hr) (by decide +kernel) (Nat.le_trans (Nat.le_of_ble_eq_true rfl) hca19) (Nat.le_trans (Nat.le_of_ble_eq_true rfl) hcb19) dX19_box_98 (fun q H hq => ?_)
    have hr := zRC_rep hq
    refine lv_dup F.1 F.2.1 dX19_box_101 rfl ?_
    refine zK_callN (cs := []) (As := []) (rest := [.ref q, .int (13 : Int32), .ref (B18 149 n1)]) hAO zn_2142 rfl zq_2143 zq_2144 zq_19 hdX15_init (okX15_init l D cy q ) (zFx_k F hA) hq hl.1 rfl (Nat.le_of_ble_eq_true rfl) dX19_box_102 ⟨Nat.le_of_ble_eq_true rfl, Nat.le_of_ble_eq_true rfl⟩ ⟨Nat.le_trans (Nat.le_of_ble_eq_true rfl) hca19, Nat.le_trans (Nat.le_of_ble_eq_true rfl) hcb19⟩ (fun H locs cs1 hp hq => ?_)
    obtain ⟨w1, w2, rfl⟩ := hp
    obtain ⟨B19, hB19, eo19, hst, hD19, h9, hr⟩ := zmkX15 hst h9 n19  hfr19 hq
    clear hq
    generalize eI19 : I18 ++ znmX15 n19 = I19 at hst hD19 h9 hr
    have F0 := F
    have F := zFx_nx F hst hD19
    have hi19 : ∀ k o, (k, o) ∈ I18 → (k, o) ∈ I19 := fun k o h => eI19 ▸ List.mem_append_left _ h
    have hn19 : (15, n19) ∈ I19 := eI19 ▸ List.mem_append_right _ (List.mem_of_getElem? (l := znmX15 n19) (i := 0) rfl)
    have hx := zExt_nx hx hB19 hi19
    obtain ⟨z86, ez86⟩ : ∃ y, y = zmg (znmX15 n19) (zmwX15 n19 ) z85 := ⟨_, rfl⟩
    rw [← ez86] at hr
    replace h := zl_sub ez86 h
    clear ez86
    replace h := zl_sub eI19.symm h
    have ha19_0 : (12, n1) ∈ I19 := hi19 _ _ ha18_0
    have ha19_1 : (19, x0) ∈ I19 := hi19 _ _ ha18_1
    have ha19_2 : (149, n1) ∈ I19 := hi19 _ _ (zal_a F0 ha18_0 (j := 12) rfl)
    replace hl : lv_has ls 4 [(3, .int (13 : Int32)), (2, .ref (B19 12 n1)), (0, .ref (B19 19 x0)), (1, .int (1 : Int32))] := by
            rw [hB19 12 n1 ha18_0, hB19 19 x0 ha18_1]; exact hl
    rw [← hB19 149 n1 (zal_a F0 ha18_0 (j := 12) rfl)]
    subst eo19
    refine zr_aast (k := 149) (v := (some n19)) (T := TX15) (N := 6) (by decide) rfl (by decide) rfl rfl F ha19_2 hr dX19_box_105 (by rw [zlen_d (by decide)]; exact (by unfold vp_in; decide)) (zal_s hn19) (fun H locs z88 ez88 hr => ?_)
    replace h := zl_sub ez88 h
    clear ez88
    refine lv_iinc (v := (14 : Int32)) (lv' := [(3, .int (14 : Int32)), (2, .ref (B19 12 n1)), (0, .ref (B19 19 x0)), (1, .int (1 : Int32))]) F.1 F.2.1 dX19_box_106 hl (k := 0) rfl (by decide) (by decide) rfl (fun ls hl => ?_)
    refine lv_goto (tgt := 76) F.1 F.2.1 dX19_box_109 (by decide) ?_
    refine lv_iload_n F.1 F.2.1 dX19_box_76 rfl (lv_at hl 0 rfl) ?_
    refine lv_bipush (v := (16 : Int32)) F.1 F.2.1 dX19_box_77 (by decide) ?_
    refine lv_icmp_ge (tgt := 112) F.1 F.2.1 dX19_box_79 (by decide) (fun hc => absurd hc (by decide)) (fun _ => ?_)
    refine lv_aload_n F.1 F.2.1 dX19_box_82 rfl (lv_at hl 1 rfl) ?_
    refine gf19_448 F ha19_0 hr dX19_box_83 ?_
    refine lv_iload_n F.1 F.2.1 dX19_box_86 rfl (lv_at hl 0 rfl) ?_
    refine lv_iconst (v := (-1 : Int32)) F.1 F.2.1 dX19_box_87 (by decide) ?_
    refine zr_iast (k := 150) (by decide) rfl (by decide) F (zal_a F ha19_0 (j := 14) rfl) hr dX19_box_88 (by unfold vp_in; decide) (fun H locs z90 ez90 hr => ?_)
    replace h := zl_sub ez90 h
    clear ez90
    refine lv_iload_n F.1 F.2.1 dX19_box_89 rfl (lv_at hl 3 rfl) ?_
    refine lv_if_eq (tgt := 106) F.1 F.2.1 dX19_box_90 (by decide) (fun hc => absurd hc (by decide)) (fun _ => ?_)
    refine lv_aload_n F.1 F.2.1 dX19_box_93 rfl (lv_at hl 1 rfl) ?_
    refine gf19_460 F ha19_0 hr dX19_box_94 ?_
    refine lv_iload_n F.1 F.2.1 dX19_box_97 rfl (lv_at hl 0 rfl) ?_
    obtain ⟨n20, en20⟩ : ∃ y : Nat, y = 16 * n1 + 14 := ⟨_, rfl⟩
    replace h := zl_sub en20 h
    replace h := zqc_some h
    obtain ⟨⟨hfr20, hca20, hcb20⟩, h⟩ := h
    refine zc_new (k := 15) (T := TX15) (N := 6) (fs := [.int 0, .int 0, .int 0, .int 0, .null, .null]) tyX15 tyX15_ok rfl inX15 zq_2140 zq_2141 zq_19 (zFx_k F hA) (zRC_of F hr) (by decide +kernel) (Nat.le_trans (Nat.le_of_ble_eq_true rfl) hca20) (Nat.le_trans (Nat.le_of_ble_eq_true rfl) hcb20) dX19_box_98 (fun q H hq => ?_)
    have hr := zRC_rep hq
    refine lv_dup F.1 F.2.1 dX19_box_101 rfl ?_
    refine zK_callN (cs := []) (As := []) (rest := [.ref q, .int (14 : Int32), .ref (B19 149 n1)]) hAO zn_2142 rfl zq_2143 zq_2144 zq_19 hdX15_init (okX15_init l D cy q ) (zFx_k F hA) hq hl.1 rfl (Nat.le_of_ble_eq_true rfl) dX19_box_102 ⟨Nat.le_of_ble_eq_true rfl, Nat.le_of_ble_eq_true rfl⟩ ⟨Nat.le_trans (Nat.le_of_ble_eq_true rfl) hca20, Nat.le_trans (Nat.le_of_ble_eq_true rfl) hcb20⟩ (fun H locs cs1 hp hq => ?_)
    obtain ⟨w1, w2, rfl⟩ := hp
    obtain ⟨B20, hB20, eo20, hst, hD20, h9, hr⟩ := zmkX15 hst h9 n20  hfr20 hq
    clear hq
    generalize eI20 : I19 ++ znmX15 n20 = I20 at hst hD20 h9 hr
    have F0 := F
    have F := zFx_nx F hst hD20
    have hi20 : ∀ k o, (k, o) ∈ I19 → (k, o) ∈ I20 := fun k o h => eI20 ▸ List.mem_append_left _ h
    have hn20 : (15, n20) ∈ I20 := eI20 ▸ List.mem_append_right _ (List.mem_of_getElem? (l := znmX15 n20) (i := 0) rfl)
    have hx := zExt_nx hx hB20 hi20
    obtain ⟨z91, ez91⟩ : ∃ y, y = zmg (znmX15 n20) (zmwX15 n20 ) z90 := ⟨_, rfl⟩
    rw [← ez91] at hr
    replace h := zl_sub ez91 h
    clear ez91
    replace h := zl_sub eI20.symm h
    have ha20_0 : (12, n1) ∈ I20 := hi20 _ _ ha19_0
    have ha20_1 : (19, x0) ∈ I20 := hi20 _ _ ha19_1
    have ha20_2 : (149, n1) ∈ I20 := hi20 _ _ (zal_a F0 ha19_0 (j := 12) rfl)
    replace hl : lv_has ls 4 [(3, .int (14 : Int32)), (2, .ref (B20 12 n1)), (0, .ref (B20 19 x0)), (1, .int (1 : Int32))] := by
            rw [hB20 12 n1 ha19_0, hB20 19 x0 ha19_1]; exact hl
    rw [← hB20 149 n1 (zal_a F0 ha19_0 (j := 12) rfl)]
    subst eo20
    refine zr_aast (k := 149) (v := (some n20)) (T := TX15) (N := 6) (by decide) rfl (by decide) rfl rfl F ha20_2 hr dX19_box_105 (by rw [zlen_d (by decide)]; exact (by unfold vp_in; decide)) (zal_s hn20) (fun H locs z93 ez93 hr => ?_)
    replace h := zl_sub ez93 h
    clear ez93
    refine lv_iinc (v := (15 : Int32)) (lv' := [(3, .int (15 : Int32)), (2, .ref (B20 12 n1)), (0, .ref (B20 19 x0)), (1, .int (1 : Int32))]) F.1 F.2.1 dX19_box_106 hl (k := 0) rfl (by decide) (by decide) rfl (fun ls hl => ?_)
    refine lv_goto (tgt := 76) F.1 F.2.1 dX19_box_109 (by decide) ?_
    refine lv_iload_n F.1 F.2.1 dX19_box_76 rfl (lv_at hl 0 rfl) ?_
    refine lv_bipush (v := (16 : Int32)) F.1 F.2.1 dX19_box_77 (by decide) ?_
    refine lv_icmp_ge (tgt := 112) F.1 F.2.1 dX19_box_79 (by decide) (fun hc => absurd hc (by decide)) (fun _ => ?_)
    refine lv_aload_n F.1 F.2.1 dX19_box_82 rfl (lv_at hl 1 rfl) ?_
    refine gf19_448 F ha20_0 hr dX19_box_83 ?_
    refine lv_iload_n F.1 F.2.1 dX19_box_86 rfl (lv_at hl 0 rfl) ?_
    refine lv_iconst (v := (-1 : Int32)) F.1 F.2.1 dX19_box_87 (by decide) ?_
    refine zr_iast (k := 150) (by decide) rfl (by decide) F (zal_a F ha20_0 (j := 14) rfl) hr dX19_box_88 (by unfold vp_in; decide) (fun H locs z95 ez95 hr => ?_)
    replace h := zl_sub ez95 h
    clear ez95
    refine lv_iload_n F.1 F.2.1 dX19_box_89 rfl (lv_at hl 3 rfl) ?_
    refine lv_if_eq (tgt := 106) F.1 F.2.1 dX19_box_90 (by decide) (fun hc => absurd hc (by decide)) (fun _ => ?_)
    refine lv_aload_n F.1 F.2.1 dX19_box_93 rfl (lv_at hl 1 rfl) ?_
    refine gf19_460 F ha20_0 hr dX19_box_94 ?_
    refine lv_iload_n F.1 F.2.1 dX19_box_97 rfl (lv_at hl 0 rfl) ?_
    obtain ⟨n21, en21⟩ : ∃ y : Nat, y = 16 * n1 + 15 := ⟨_, rfl⟩
    replace h := zl_sub en21 h
    replace h := zqc_some h
    obtain ⟨⟨hfr21, hca21, hcb21⟩, h⟩ := h
    refine zc_new (k := 15) (T := TX15) (N := 6) (fs := [.int 0, .int 0, .int 0, .int 0, .null, .null]) tyX15 tyX15_ok rfl inX15 zq_2140 zq_2141 zq_19 (zFx_k F hA) (zRC_of F hr) (by decide +kernel) (Nat.le_trans (Nat.le_of_ble_eq_true rfl) hca21) (Nat.le_trans (Nat.le_of_ble_eq_true rfl) hcb21) dX19_box_98 (fun q H hq => ?_)
    have hr := zRC_rep hq
    refine lv_dup F.1 F.2.1 dX19_box_101 rfl ?_
    refine zK_callN (cs := []) (As := []) (rest := [.ref q, .int (15 : Int32), .ref (B20 149 n1)]) hAO zn_2142 rfl zq_2143 zq_2144 zq_19 hdX15_init (okX15_init l D cy q ) (zFx_k F hA) hq hl.1 rfl (Nat.le_of_ble_eq_true rfl) dX19_box_102 ⟨Nat.le_of_ble_eq_true rfl, Nat.le_of_ble_eq_true rfl⟩ ⟨Nat.le_trans (Nat.le_of_ble_eq_true rfl) hca21, Nat.le_trans (Nat.le_of_ble_eq_true rfl) hcb21⟩ (fun H locs cs1 hp hq => ?_)
    obtain ⟨w1, w2, rfl⟩ := hp
    obtain ⟨B21, hB21, eo21, hst, hD21, h9, hr⟩ := zmkX15 hst h9 n21  hfr21 hq
    clear hq
    generalize eI21 : I20 ++ znmX15 n21 = I21 at hst hD21 h9 hr
    have F0 := F
    have F := zFx_nx F hst hD21
    have hi21 : ∀ k o, (k, o) ∈ I20 → (k, o) ∈ I21 := fun k o h => eI21 ▸ List.mem_append_left _ h
    have hn21 : (15, n21) ∈ I21 := eI21 ▸ List.mem_append_right _ (List.mem_of_getElem? (l := znmX15 n21) (i := 0) rfl)
    have hx := zExt_nx hx hB21 hi21
    obtain ⟨z96, ez96⟩ : ∃ y, y = zmg (znmX15 n21) (zmwX15 n21 ) z95 := ⟨_, rfl⟩
    rw [← ez96] at hr
    replace h := zl_sub ez96 h
    clear ez96
    replace h := zl_sub eI21.symm h
    have ha21_0 : (12, n1) ∈ I21 := hi21 _ _ ha20_0
    have ha21_1 : (19, x0) ∈ I21 := hi21 _ _ ha20_1
    have ha21_2 : (149, n1) ∈ I21 := hi21 _ _ (zal_a F0 ha20_0 (j := 12) rfl)
    replace hl : lv_has ls 4 [(3, .int (15 : Int32)), (2, .ref (B21 12 n1)), (0, .ref (B21 19 x0)), (1, .int (1 : Int32))] := by
            rw [hB21 12 n1 ha20_0, hB21 19 x0 ha20_1]; exact hl
    rw [← hB21 149 n1 (zal_a F0 ha20_0 (j := 12) rfl)]
    subst eo21
    refine zr_aast (k := 149) (v := (some n21)) (T := TX15) (N := 6) (by decide) rfl (by decide) rfl rfl F ha21_2 hr dX19_box_105 (by rw [zlen_d (by decide)]; exact (by unfold vp_in; decide)) (zal_s hn21) (fun H locs z98 ez98 hr => ?_)
    replace h := zl_sub ez98 h
    clear ez98
    refine lv_iinc (v := (16 : Int32)) (lv' := [(3, .int (16 : Int32)), (2, .ref (B21 12 n1)), (0, .ref (B21 19 x0)), (1, .int (1 : Int32))]) F.1 F.2.1 dX19_box_106 hl (k := 0) rfl (by decide) (by decide) rfl (fun ls hl => ?_)
    refine lv_goto (tgt := 76) F.1 F.2.1 dX19_box_109 (by decide) ?_
    refine lv_iload_n F.1 F.2.1 dX19_box_76 rfl (lv_at hl 0 rfl) ?_
    refine lv_bipush (v := (16 : Int32)) F.1 F.2.1 dX19_box_77 (by decide) ?_
    refine lv_icmp_ge (tgt := 112) F.1 F.2.1 dX19_box_79 (by decide) (fun _ => ?_) (fun hc => absurd (by decide) hc)
    refine lv_iconst (v := (0 : Int32)) F.1 F.2.1 dX19_box_112 (by decide) ?_
    refine lv_istore_n (lv' := [(3, .int (0 : Int32)), (2, .ref (B21 12 n1)), (0, .ref (B21 19 x0)), (1, .int (1 : Int32))]) F.1 F.2.1 dX19_box_113 rfl hl (by decide) rfl (fun ls hl => ?_)
    refine lv_iload_n F.1 F.2.1 dX19_box_114 rfl (lv_at hl 0 rfl) ?_
    refine lv_bipush (v := (6 : Int32)) F.1 F.2.1 dX19_box_115 (by decide) ?_
    refine lv_icmp_ge (tgt := 159) F.1 F.2.1 dX19_box_117 (by decide) (fun hc => absurd hc (by decide)) (fun _ => ?_)
    refine lv_iload_n F.1 F.2.1 dX19_box_120 rfl (lv_at hl 3 rfl) ?_
    refine lv_if_ne (tgt := 159) F.1 F.2.1 dX19_box_121 (by decide) (fun _ => ?_) (fun hc => absurd hc (by decide))
    refine lv_iconst (v := (0 : Int32)) F.1 F.2.1 dX19_box_159 (by decide) ?_
    refine lv_istore_n (lv' := [(3, .int (0 : Int32)), (2, .ref (B21 12 n1)), (0, .ref (B21 19 x0)), (1, .int (1 : Int32))]) F.1 F.2.1 dX19_box_160 rfl hl (by decide) rfl (fun ls hl => ?_)
    refine lv_iload_n F.1 F.2.1 dX19_box_161 rfl (lv_at hl 0 rfl) ?_
    refine lv_bipush (v := (24 : Int32)) F.1 F.2.1 dX19_box_162 (by decide) ?_
    refine lv_icmp_ge (tgt := 194) F.1 F.2.1 dX19_box_164 (by decide) (fun hc => absurd hc (by decide)) (fun _ => ?_)
    refine lv_aload_n F.1 F.2.1 dX19_box_167 rfl (lv_at hl 1 rfl) ?_
    refine gf19_301 F ha21_0 hr dX19_box_168 ?_
    refine lv_iload_n F.1 F.2.1 dX19_box_171 rfl (lv_at hl 0 rfl) ?_
    refine lv_iconst (v := (-1 : Int32)) F.1 F.2.1 dX19_box_172 (by decide) ?_
    refine zr_iast (k := 155) (by decide) rfl (by decide) F (zal_a F ha21_0 (j := 25) rfl) hr dX19_box_173 (by unfold vp_in; decide) (fun H locs z100 ez100 hr => ?_)
    replace h := zl_sub ez100 h
    clear ez100
    refine lv_aload_n F.1 F.2.1 dX19_box_174 rfl (lv_at hl 1 rfl) ?_
    refine gf19_307 F ha21_0 hr dX19_box_175 ?_
    refine lv_iload_n F.1 F.2.1 dX19_box_178 rfl (lv_at hl 0 rfl) ?_
    refine lv_iconst (v := (-1 : Int32)) F.1 F.2.1 dX19_box_179 (by decide) ?_
    refine zr_iast (k := 156) (by decide) rfl (by decide) F (zal_a F ha21_0 (j := 26) rfl) hr dX19_box_180 (by unfold vp_in; decide) (fun H locs z102 ez102 hr => ?_)
    replace h := zl_sub ez102 h
    clear ez102
    refine lv_aload_n F.1 F.2.1 dX19_box_181 rfl (lv_at hl 1 rfl) ?_
    refine gf19_304 F ha21_0 hr dX19_box_182 ?_
    refine lv_iload_n F.1 F.2.1 dX19_box_185 rfl (lv_at hl 0 rfl) ?_
    refine lv_iconst (v := (-1 : Int32)) F.1 F.2.1 dX19_box_186 (by decide) ?_
    refine zr_iast (k := 157) (by decide) rfl (by decide) F (zal_a F ha21_0 (j := 27) rfl) hr dX19_box_187 (by unfold vp_in; decide) (fun H locs z104 ez104 hr => ?_)
    replace h := zl_sub ez104 h
    clear ez104
    refine lv_iinc (v := (1 : Int32)) (lv' := [(3, .int (1 : Int32)), (2, .ref (B21 12 n1)), (0, .ref (B21 19 x0)), (1, .int (1 : Int32))]) F.1 F.2.1 dX19_box_188 hl (k := 0) rfl (by decide) (by decide) rfl (fun ls hl => ?_)
    refine lv_goto (tgt := 161) F.1 F.2.1 dX19_box_191 (by decide) ?_
    refine lv_iload_n F.1 F.2.1 dX19_box_161 rfl (lv_at hl 0 rfl) ?_
    refine lv_bipush (v := (24 : Int32)) F.1 F.2.1 dX19_box_162 (by decide) ?_
    refine lv_icmp_ge (tgt := 194) F.1 F.2.1 dX19_box_164 (by decide) (fun hc => absurd hc (by decide)) (fun _ => ?_)
    refine lv_aload_n F.1 F.2.1 dX19_box_167 rfl (lv_at hl 1 rfl) ?_
    refine gf19_301 F ha21_0 hr dX19_box_168 ?_
    refine lv_iload_n F.1 F.2.1 dX19_box_171 rfl (lv_at hl 0 rfl) ?_
    refine lv_iconst (v := (-1 : Int32)) F.1 F.2.1 dX19_box_172 (by decide) ?_
    refine zr_iast (k := 155) (by decide) rfl (by decide) F (zal_a F ha21_0 (j := 25) rfl) hr dX19_box_173 (by unfold vp_in; decide) (fun H locs z106 ez106 hr => ?_)
    replace h := zl_sub ez106 h
    clear ez106
    refine lv_aload_n F.1 F.2.1 dX19_box_174 rfl (lv_at hl 1 rfl) ?_
    refine gf19_307 F ha21_0 hr dX19_box_175 ?_
    refine lv_iload_n F.1 F.2.1 dX19_box_178 rfl (lv_at hl 0 rfl) ?_
    refine lv_iconst (v := (-1 : Int32)) F.1 F.2.1 dX19_box_179 (by decide) ?_
    refine zr_iast (k := 156) (by decide) rfl (by decide) F (zal_a F ha21_0 (j := 26) rfl) hr dX19_box_180 (by unfold vp_in; decide) (fun H locs z108 ez108 hr => ?_)
    replace h := zl_sub ez108 h
    clear ez108
    refine lv_aload_n F.1 F.2.1 dX19_box_181 rfl (lv_at hl 1 rfl) ?_
    refine gf19_304 F ha21_0 hr dX19_box_182 ?_
    refine lv_iload_n F.1 F.2.1 dX19_box_185 rfl (lv_at hl 0 rfl) ?_
    refine lv_iconst (v := (-1 : Int32)) F.1 F.2.1 dX19_box_186 (by decide) ?_
    refine zr_iast (k := 157) (by decide) rfl (by decide) F (zal_a F ha21_0 (j := 27) rfl) hr dX19_box_187 (by unfold vp_in; decide) (fun H locs z110 ez110 hr => ?_)
    replace h := zl_sub ez110 h
    clear ez110
    refine lv_iinc (v := (2 : Int32)) (lv' := [(3, .int (2 : Int32)), (2, .ref (B21 12 n1)), (0, .ref (B21 19 x0)), (1, .int (1 : Int32))]) F.1 F.2.1 dX19_box_188 hl (k := 0) rfl (by decide) (by decide) rfl (fun ls hl => ?_)
    refine lv_goto (tgt := 161) F.1 F.2.1 dX19_box_191 (by decide) ?_
    refine lv_iload_n F.1 F.2.1 dX19_box_161 rfl (lv_at hl 0 rfl) ?_
    refine lv_bipush (v := (24 : Int32)) F.1 F.2.1 dX19_box_162 (by decide) ?_
    refine lv_icmp_ge (tgt := 194) F.1 F.2.1 dX19_box_164 (by decide) (fun hc => absurd hc (by decide)) (fun _ => ?_)
    refine lv_aload_n F.1 F.2.1 dX19_box_167 rfl (lv_at hl 1 rfl) ?_
    refine gf19_301 F ha21_0 hr dX19_box_168 ?_
    refine lv_iload_n F.1 F.2.1 dX19_box_171 rfl (lv_at hl 0 rfl) ?_
    refine lv_iconst (v := (-1 : Int32)) F.1 F.2.1 dX19_box_172 (by decide) ?_
    refine zr_iast (k := 155) (by decide) rfl (by decide) F (zal_a F ha21_0 (j := 25) rfl) hr dX19_box_173 (by unfold vp_in; decide) (fun H locs z112 ez112 hr => ?_)
    replace h := zl_sub ez112 h
    clear ez112
    refine lv_aload_n F.1 F.2.1 dX19_box_174 rfl (lv_at hl 1 rfl) ?_
    refine gf19_307 F ha21_0 hr dX19_box_175 ?_
    refine lv_iload_n F.1 F.2.1 dX19_box_178 rfl (lv_at hl 0 rfl) ?_
    refine lv_iconst (v := (-1 : Int32)) F.1 F.2.1 dX19_box_179 (by decide) ?_
    refine zr_iast (k := 156) (by decide) rfl (by decide) F (zal_a F ha21_0 (j := 26) rfl) hr dX19_box_180 (by unfold vp_in; decide) (fun H locs z114 ez114 hr => ?_)
    replace h := zl_sub ez114 h
    clear ez114
    refine lv_aload_n F.1 F.2.1 dX19_box_181 rfl (lv_at hl 1 rfl) ?_
    refine gf19_304 F ha21_0 hr dX19_box_182 ?_
    refine lv_iload_n F.1 F.2.1 dX19_box_185 rfl (lv_at hl 0 rfl) ?_
    refine lv_iconst (v := (-1 : Int32)) F.1 F.2.1 dX19_box_186 (by decide) ?_
    refine zr_iast (k := 157) (by decide) rfl (by decide) F (zal_a F ha21_0 (j := 27) rfl) hr dX19_box_187 (by unfold vp_in; decide) (fun H locs z116 ez116 hr => ?_)
    replace h := zl_sub ez116 h
    clear ez116
    refine lv_iinc (v := (3 : Int32)) (lv' := [(3, .int (3 : Int32)), (2, .ref (B21 12 n1)), (0, .ref (B21 19 x0)), (1, .int (1 : Int32))]) F.1 F.2.1 dX19_box_188 hl (k := 0) rfl (by decide) (by decide) rfl (fun ls hl => ?_)
    refine lv_goto (tgt := 161) F.1 F.2.1 dX19_box_191 (by decide) ?_
    refine lv_iload_n F.1 F.2.1 dX19_box_161 rfl (lv_at hl 0 rfl) ?_
    refine lv_bipush (v := (24 : Int32)) F.1 F.2.1 dX19_box_162 (by decide) ?_
    refine lv_icmp_ge (tgt := 194) F.1 F.2.1 dX19_box_164 (by decide) (fun hc => absurd hc (by decide)) (fun _ => ?_)
    refine lv_aload_n F.1 F.2.1 dX19_box_167 rfl (lv_at hl 1 rfl) ?_
    refine gf19_301 F ha21_0 hr dX19_box_168 ?_
    refine lv_iload_n F.1 F.2.1 dX19_box_171 rfl (lv_at hl 0 rfl) ?_
    refine lv_iconst (v := (-1 : Int32)) F.1 F.2.1 dX19_box_172 (by decide) ?_
    refine zr_iast (k := 155) (by decide) rfl (by decide) F (zal_a F ha21_0 (j := 25) rfl) hr dX19_box_173 (by unfold vp_in; decide) (fun H locs z118 ez118 hr => ?_)
    replace h := zl_sub ez118 h
    clear ez118
    refine lv_aload_n F.1 F.2.1 dX19_box_174 rfl (lv_at hl 1 rfl) ?_
    refine gf19_307 F ha21_0 hr dX19_box_175 ?_
    refine lv_iload_n F.1 F.2.1 dX19_box_178 rfl (lv_at hl 0 rfl) ?_
    refine lv_iconst (v := (-1 : Int32)) F.1 F.2.1 dX19_box_179 (by decide) ?_
    refine zr_iast (k := 156) (by decide) rfl (by decide) F (zal_a F ha21_0 (j := 26) rfl) hr dX19_box_180 (by unfold vp_in; decide) (fun H locs z120 ez120 hr => ?_)
    replace h := zl_sub ez120 h
    clear ez120
    refine lv_aload_n F.1 F.2.1 dX19_box_181 rfl (lv_at hl 1 rfl) ?_
    refine gf19_304 F ha21_0 hr dX19_box_182 ?_
    refine lv_iload_n F.1 F.2.1 dX19_box_185 rfl (lv_at hl 0 rfl) ?_
    refine lv_iconst (v := (-1 : Int32)) F.1 F.2.1 dX19_box_186 (by decide) ?_
    refine zr_iast (k := 157) (by decide) rfl (by decide) F (zal_a F ha21_0 (j := 27) rfl) hr dX19_box_187 (by unfold vp_in; decide) (fun H locs z122 ez122 hr => ?_)
    replace h := zl_sub ez122 h
    clear ez122
    refine lv_iinc (v := (4 : Int32)) (lv' := [(3, .int (4 : Int32)), (2, .ref (B21 12 n1)), (0, .ref (B21 19 x0)), (1, .int (1 : Int32))]) F.1 F.2.1 dX19_box_188 hl (k := 0) rfl (by decide) (by decide) rfl (fun ls hl => ?_)
    refine lv_goto (tgt := 161) F.1 F.2.1 dX19_box_191 (by decide) ?_
    refine lv_iload_n F.1 F.2.1 dX19_box_161 rfl (lv_at hl 0 rfl) ?_
    refine lv_bipush (v := (24 : Int32)) F.1 F.2.1 dX19_box_162 (by decide) ?_
    refine lv_icmp_ge (tgt := 194) F.1 F.2.1 dX19_box_164 (by decide) (fun hc => absurd hc (by decide)) (fun _ => ?_)
    refine lv_aload_n F.1 F.2.1 dX19_box_167 rfl (lv_at hl 1 rfl) ?_
    refine gf19_301 F ha21_0 hr dX19_box_168 ?_
    refine lv_iload_n F.1 F.2.1 dX19_box_171 rfl (lv_at hl 0 rfl) ?_
    refine lv_iconst (v := (-1 : Int32)) F.1 F.2.1 dX19_box_172 (by decide) ?_
    refine zr_iast (k := 155) (by decide) rfl (by decide) F (zal_a F ha21_0 (j := 25) rfl) hr dX19_box_173 (by unfold vp_in; decide) (fun H locs z124 ez124 hr => ?_)
    replace h := zl_sub ez124 h
    clear ez124
    refine lv_aload_n F.1 F.2.1 dX19_box_174 rfl (lv_at hl 1 rfl) ?_
    refine gf19_307 F ha21_0 hr dX19_box_175 ?_
    refine lv_iload_n F.1 F.2.1 dX19_box_178 rfl (lv_at hl 0 rfl) ?_
    refine lv_iconst (v := (-1 : Int32)) F.1 F.2.1 dX19_box_179 (by decide) ?_
    refine zr_iast (k := 156) (by decide) rfl (by decide) F (zal_a F ha21_0 (j := 26) rfl) hr dX19_box_180 (by unfold vp_in; decide) (fun H locs z126 ez126 hr => ?_)
    replace h := zl_sub ez126 h
    clear ez126
    refine lv_aload_n F.1 F.2.1 dX19_box_181 rfl (lv_at hl 1 rfl) ?_
    refine gf19_304 F ha21_0 hr dX19_box_182 ?_
    refine lv_iload_n F.1 F.2.1 dX19_box_185 rfl (lv_at hl 0 rfl) ?_
    refine lv_iconst (v := (-1 : Int32)) F.1 F.2.1 dX19_box_186 (by decide) ?_
    refine zr_iast (k := 157) (by decide) rfl (by decide) F (zal_a F ha21_0 (j := 27) rfl) hr dX19_box_187 (by unfold vp_in; decide) (fun H locs z128 ez128 hr => ?_)
    replace h := zl_sub ez128 h
    clear ez128
    refine lv_iinc (v := (5 : Int32)) (lv' := [(3, .int (5 : Int32)), (2, .ref (B21 12 n1)), (0, .ref (B21 19 x0)), (1, .int (1 : Int32))]) F.1 F.2.1 dX19_box_188 hl (k := 0) rfl (by decide) (by decide) rfl (fun ls hl => ?_)
    refine lv_goto (tgt := 161) F.1 F.2.1 dX19_box_191 (by decide) ?_
    refine lv_iload_n F.1 F.2.1 dX19_box_161 rfl (lv_at hl 0 rfl) ?_
    refine lv_bipush (v := (24 : Int32)) F.1 F.2.1 dX19_box_162 (by decide) ?_
    refine lv_icmp_ge (tgt := 194) F.1 F.2.1 dX19_box_164 (by decide) (fun hc => absurd hc (by decide)) (fun _ => ?_)
    refine lv_aload_n F.1 F.2.1 dX19_box_167 rfl (lv_at hl 1 rfl) ?_
    refine gf19_301 F ha21_0 hr dX19_box_168 ?_
    refine lv_iload_n F.1 F.2.1 dX19_box_171 rfl (lv_at hl 0 rfl) ?_
    refine lv_iconst (v := (-1 : Int32)) F.1 F.2.1 dX19_box_172 (by decide) ?_
    refine zr_iast (k := 155) (by decide) rfl (by decide) F (zal_a F ha21_0 (j := 25) rfl) hr dX19_box_173 (by unfold vp_in; decide) (fun H locs z130 ez130 hr => ?_)
    replace h := zl_sub ez130 h
    clear ez130
    refine lv_aload_n F.1 F.2.1 dX19_box_174 rfl (lv_at hl 1 rfl) ?_
    refine gf19_307 F ha21_0 hr dX19_box_175 ?_
    refine lv_iload_n F.1 F.2.1 dX19_box_178 rfl (lv_at hl 0 rfl) ?_
    refine lv_iconst (v := (-1 : Int32)) F.1 F.2.1 dX19_box_179 (by decide) ?_
    refine zr_iast (k := 156) (by decide) rfl (by decide) F (zal_a F ha21_0 (j := 26) rfl) hr dX19_box_180 (by unfold vp_in; decide) (fun H locs z132 ez132 hr => ?_)
    replace h := zl_sub ez132 h
    clear ez132
    refine lv_aload_n F.1 F.2.1 dX19_box_181 rfl (lv_at hl 1 rfl) ?_
    refine gf19_304 F ha21_0 hr dX19_box_182 ?_
    refine lv_iload_n F.1 F.2.1 dX19_box_185 rfl (lv_at hl 0 rfl) ?_
    refine lv_iconst (v := (-1 : Int32)) F.1 F.2.1 dX19_box_186 (by decide) ?_
    refine zr_iast (k := 157) (by decide) rfl (by decide) F (zal_a F ha21_0 (j := 27) rfl) hr dX19_box_187 (by unfold vp_in; decide) (fun H locs z134 ez134 hr => ?_)
    replace h := zl_sub ez134 h
    clear ez134
    refine lv_iinc (v := (6 : Int32)) (lv' := [(3, .int (6 : Int32)), (2, .ref (B21 12 n1)), (0, .ref (B21 19 x0)), (1, .int (1 : Int32))]) F.1 F.2.1 dX19_box_188 hl (k := 0) rfl (by decide) (by decide) rfl (fun ls hl => ?_)
    refine lv_goto (tgt := 161) F.1 F.2.1 dX19_box_191 (by decide) ?_
    refine lv_iload_n F.1 F.2.1 dX19_box_161 rfl (lv_at hl 0 rfl) ?_
    refine lv_bipush (v := (24 : Int32)) F.1 F.2.1 dX19_box_162 (by decide) ?_
    refine lv_icmp_ge (tgt := 194) F.1 F.2.1 dX19_box_164 (by decide) (fun hc => absurd hc (by decide)) (fun _ => ?_)
    refine lv_aload_n F.1 F.2.1 dX19_box_167 rfl (lv_at hl 1 rfl) ?_
    refine gf19_301 F ha21_0 hr dX19_box_168 ?_
    refine lv_iload_n F.1 F.2.1 dX19_box_171 rfl (lv_at hl 0 rfl) ?_
    refine lv_iconst (v := (-1 : Int32)) F.1 F.2.1 dX19_box_172 (by decide) ?_
    refine zr_iast (k := 155) (by decide) rfl (by decide) F (zal_a F ha21_0 (j := 25) rfl) hr dX19_box_173 (by unfold vp_in; decide) (fun H locs z136 ez136 hr => ?_)
    replace h := zl_sub ez136 h
    clear ez136
    refine lv_aload_n F.1 F.2.1 dX19_box_174 rfl (lv_at hl 1 rfl) ?_
    refine gf19_307 F ha21_0 hr dX19_box_175 ?_
    refine lv_iload_n F.1 F.2.1 dX19_box_178 rfl (lv_at hl 0 rfl) ?_
    refine lv_iconst (v := (-1 : Int32)) F.1 F.2.1 dX19_box_179 (by decide) ?_
    refine zr_iast (k := 156) (by decide) rfl (by decide) F (zal_a F ha21_0 (j := 26) rfl) hr dX19_box_180 (by unfold vp_in; decide) (fun H locs z138 ez138 hr => ?_)
    replace h := zl_sub ez138 h
    clear ez138
    refine lv_aload_n F.1 F.2.1 dX19_box_181 rfl (lv_at hl 1 rfl) ?_
    refine gf19_304 F ha21_0 hr dX19_box_182 ?_
    refine lv_iload_n F.1 F.2.1 dX19_box_185 rfl (lv_at hl 0 rfl) ?_
    refine lv_iconst (v := (-1 : Int32)) F.1 F.2.1 dX19_box_186 (by decide) ?_
    refine zr_iast (k := 157) (by decide) rfl (by decide) F (zal_a F ha21_0 (j := 27) rfl) hr dX19_box_187 (by unfold vp_in; decide) (fun H locs z140 ez140 hr => ?_)
    replace h := zl_sub ez140 h
    clear ez140
    refine lv_iinc (v := (7 : Int32)) (lv' := [(3, .int (7 : Int32)), (2, .ref (B21 12 n1)), (0, .ref (B21 19 x0)), (1, .int (1 : Int32))]) F.1 F.2.1 dX19_box_188 hl (k := 0) rfl (by decide) (by decide) rfl (fun ls hl => ?_)
    refine lv_goto (tgt := 161) F.1 F.2.1 dX19_box_191 (by decide) ?_
    refine lv_iload_n F.1 F.2.1 dX19_box_161 rfl (lv_at hl 0 rfl) ?_
    refine lv_bipush (v := (24 : Int32)) F.1 F.2.1 dX19_box_162 (by decide) ?_
    refine lv_icmp_ge (tgt := 194) F.1 F.2.1 dX19_box_164 (by decide) (fun hc => absurd hc (by decide)) (fun _ => ?_)
    refine lv_aload_n F.1 F.2.1 dX19_box_167 rfl (lv_at hl 1 rfl) ?_
    refine gf19_301 F ha21_0 hr dX19_box_168 ?_
    refine lv_iload_n F.1 F.2.1 dX19_box_171 rfl (lv_at hl 0 rfl) ?_
    refine lv_iconst (v := (-1 : Int32)) F.1 F.2.1 dX19_box_172 (by decide) ?_
    refine zr_iast (k := 155) (by decide) rfl (by decide) F (zal_a F ha21_0 (j := 25) rfl) hr dX19_box_173 (by unfold vp_in; decide) (fun H locs z142 ez142 hr => ?_)
    replace h := zl_sub ez142 h
    clear ez142
    refine lv_aload_n F.1 F.2.1 dX19_box_174 rfl (lv_at hl 1 rfl) ?_
    refine gf19_307 F ha21_0 hr dX19_box_175 ?_
    refine lv_iload_n F.1 F.2.1 dX19_box_178 rfl (lv_at hl 0 rfl) ?_
    refine lv_iconst (v := (-1 : Int32)) F.1 F.2.1 dX19_box_179 (by decide) ?_
    refine zr_iast (k := 156) (by decide) rfl (by decide) F (zal_a F ha21_0 (j := 26) rfl) hr dX19_box_180 (by unfold vp_in; decide) (fun H locs z144 ez144 hr => ?_)
    replace h := zl_sub ez144 h
    clear ez144
    refine lv_aload_n F.1 F.2.1 dX19_box_181 rfl (lv_at hl 1 rfl) ?_
    refine gf19_304 F ha21_0 hr dX19_box_182 ?_
    refine lv_iload_n F.1 F.2.1 dX19_box_185 rfl (lv_at hl 0 rfl) ?_
    refine lv_iconst (v := (-1 : Int32)) F.1 F.2.1 dX19_box_186 (by decide) ?_
    refine zr_iast (k := 157) (by decide) rfl (by decide) F (zal_a F ha21_0 (j := 27) rfl) hr dX19_box_187 (by unfold vp_in; decide) (fun H locs z146 ez146 hr => ?_)
    replace h := zl_sub ez146 h
    clear ez146
    refine lv_iinc (v := (8 : Int32)) (lv' := [(3, .int (8 : Int32)), (2, .ref (B21 12 n1)), (0, .ref (B21 19 x0)), (1, .int (1 : Int32))]) F.1 F.2.1 dX19_box_188 hl (k := 0) rfl (by decide) (by decide) rfl (fun ls hl => ?_)
    refine lv_goto (tgt := 161) F.1 F.2.1 dX19_box_191 (by decide) ?_
    refine lv_iload_n F.1 F.2.1 dX19_box_161 rfl (lv_at hl 0 rfl) ?_
    refine lv_bipush (v := (24 : Int32)) F.1 F.2.1 dX19_box_162 (by decide) ?_
    refine lv_icmp_ge (tgt := 194) F.1 F.2.1 dX19_box_164 (by decide) (fun hc => absurd hc (by decide)) (fun _ => ?_)
    refine lv_aload_n F.1 F.2.1 dX19_box_167 rfl (lv_at hl 1 rfl) ?_
    refine gf19_301 F ha21_0 hr dX19_box_168 ?_
    refine lv_iload_n F.1 F.2.1 dX19_box_171 rfl (lv_at hl 0 rfl) ?_
    refine lv_iconst (v := (-1 : Int32)) F.1 F.2.1 dX19_box_172 (by decide) ?_
    refine zr_iast (k := 155) (by decide) rfl (by decide) F (zal_a F ha21_0 (j := 25) rfl) hr dX19_box_173 (by unfold vp_in; decide) (fun H locs z148 ez148 hr => ?_)
    replace h := zl_sub ez148 h
    clear ez148
    refine lv_aload_n F.1 F.2.1 dX19_box_174 rfl (lv_at hl 1 rfl) ?_
    refine gf19_307 F ha21_0 hr dX19_box_175 ?_
    refine lv_iload_n F.1 F.2.1 dX19_box_178 rfl (lv_at hl 0 rfl) ?_
    refine lv_iconst (v := (-1 : Int32)) F.1 F.2.1 dX19_box_179 (by decide) ?_
    refine zr_iast (k := 156) (by decide) rfl (by decide) F (zal_a F ha21_0 (j := 26) rfl) hr dX19_box_180 (by unfold vp_in; decide) (fun H locs z150 ez150 hr => ?_)
    replace h := zl_sub ez150 h
    clear ez150
    refine lv_aload_n F.1 F.2.1 dX19_box_181 rfl (lv_at hl 1 rfl) ?_
    refine gf19_304 F ha21_0 hr dX19_box_182 ?_
    refine lv_iload_n F.1 F.2.1 dX19_box_185 rfl (lv_at hl 0 rfl) ?_
    refine lv_iconst (v := (-1 : Int32)) F.1 F.2.1 dX19_box_186 (by decide) ?_
    refine zr_iast (k := 157) (by decide) rfl (by decide) F (zal_a F ha21_0 (j := 27) rfl) hr dX19_box_187 (by unfold vp_in; decide) (fun H locs z152 ez152 hr => ?_)
    replace h := zl_sub ez152 h
    clear ez152
    refine lv_iinc (v := (9 : Int32)) (lv' := [(3, .int (9 : Int32)), (2, .ref (B21 12 n1)), (0, .ref (B21 19 x0)), (1, .int (1 : Int32))]) F.1 F.2.1 dX19_box_188 hl (k := 0) rfl (by decide) (by decide) rfl (fun ls hl => ?_)
    refine lv_goto (tgt := 161) F.1 F.2.1 dX19_box_191 (by decide) ?_
    refine lv_iload_n F.1 F.2.1 dX19_box_161 rfl (lv_at hl 0 rfl) ?_
    refine lv_bipush (v := (24 : Int32)) F.1 F.2.1 dX19_box_162 (by decide) ?_
    refine lv_icmp_ge (tgt := 194) F.1 F.2.1 dX19_box_164 (by decide) (fun hc => absurd hc (by decide)) (fun _ => ?_)
    refine lv_aload_n F.1 F.2.1 dX19_box_167 rfl (lv_at hl 1 rfl) ?_
    refine gf19_301 F ha21_0 hr dX19_box_168 ?_
    refine lv_iload_n F.1 F.2.1 dX19_box_171 rfl (lv_at hl 0 rfl) ?_
    refine lv_iconst (v := (-1 : Int32)) F.1 F.2.1 dX19_box_172 (by decide) ?_
    refine zr_iast (k := 155) (by decide) rfl (by decide) F (zal_a F ha21_0 (j := 25) rfl) hr dX19_box_173 (by unfold vp_in; decide) (fun H locs z154 ez154 hr => ?_)
    replace h := zl_sub ez154 h
    clear ez154
    refine lv_aload_n F.1 F.2.1 dX19_box_174 rfl (lv_at hl 1 rfl) ?_
    refine gf19_307 F ha21_0 hr dX19_box_175 ?_
    refine lv_iload_n F.1 F.2.1 dX19_box_178 rfl (lv_at hl 0 rfl) ?_
    refine lv_iconst (v := (-1 : Int32)) F.1 F.2.1 dX19_box_179 (by decide) ?_
    refine zr_iast (k := 156) (by decide) rfl (by decide) F (zal_a F ha21_0 (j := 26) rfl) hr dX19_box_180 (by unfold vp_in; decide) (fun H locs z156 ez156 hr => ?_)
    replace h := zl_sub ez156 h
    clear ez156
    refine lv_aload_n F.1 F.2.1 dX19_box_181 rfl (lv_at hl 1 rfl) ?_
    refine gf19_304 F ha21_0 hr dX19_box_182 ?_
    refine lv_iload_n F.1 F.2.1 dX19_box_185 rfl (lv_at hl 0 rfl) ?_
    refine lv_iconst (v := (-1 : Int32)) F.1 F.2.1 dX19_box_186 (by decide) ?_
    refine zr_iast (k := 157) (by decide) rfl (by decide) F (zal_a F ha21_0 (j := 27) rfl) hr dX19_box_187 (by unfold vp_in; decide) (fun H locs z158 ez158 hr => ?_)
    replace h := zl_sub ez158 h
    clear ez158
    refine lv_iinc (v := (10 : Int32)) (lv' := [(3, .int (10 : Int32)), (2, .ref (B21 12 n1)), (0, .ref (B21 19 x0)), (1, .int (1 : Int32))]) F.1 F.2.1 dX19_box_188 hl (k := 0) rfl (by decide) (by decide) rfl (fun ls hl => ?_)
    refine lv_goto (tgt := 161) F.1 F.2.1 dX19_box_191 (by decide) ?_
    refine lv_iload_n F.1 F.2.1 dX19_box_161 rfl (lv_at hl 0 rfl) ?_
    refine lv_bipush (v := (24 : Int32)) F.1 F.2.1 dX19_box_162 (by decide) ?_
    refine lv_icmp_ge (tgt := 194) F.1 F.2.1 dX19_box_164 (by decide) (fun hc => absurd hc (by decide)) (fun _ => ?_)
    refine lv_aload_n F.1 F.2.1 dX19_box_167 rfl (lv_at hl 1 rfl) ?_
    refine gf19_301 F ha21_0 hr dX19_box_168 ?_
    refine lv_iload_n F.1 F.2.1 dX19_box_171 rfl (lv_at hl 0 rfl) ?_
    refine lv_iconst (v := (-1 : Int32)) F.1 F.2.1 dX19_box_172 (by decide) ?_
    refine zr_iast (k := 155) (by decide) rfl (by decide) F (zal_a F ha21_0 (j := 25) rfl) hr dX19_box_173 (by unfold vp_in; decide) (fun H locs z160 ez160 hr => ?_)
    replace h := zl_sub ez160 h
    clear ez160
    refine lv_aload_n F.1 F.2.1 dX19_box_174 rfl (lv_at hl 1 rfl) ?_
    refine gf19_307 F ha21_0 hr dX19_box_175 ?_
    refine lv_iload_n F.1 F.2.1 dX19_box_178 rfl (lv_at hl 0 rfl) ?_
    refine lv_iconst (v := (-1 : Int32)) F.1 F.2.1 dX19_box_179 (by decide) ?_
    refine zr_iast (k := 156) (by decide) rfl (by decide) F (zal_a F ha21_0 (j := 26) rfl) hr dX19_box_180 (by unfold vp_in; decide) (fun H locs z162 ez162 hr => ?_)
    replace h := zl_sub ez162 h
    clear ez162
    refine lv_aload_n F.1 F.2.1 dX19_box_181 rfl (lv_at hl 1 rfl) ?_
    refine gf19_304 F ha21_0 hr dX19_box_182 ?_
    refine lv_iload_n F.1 F.2.1 dX19_box_185 rfl (lv_at hl 0 rfl) ?_
    refine lv_iconst (v := (-1 : Int32)) F.1 F.2.1 dX19_box_186 (by decide) ?_
    refine zr_iast (k := 157) (by decide) rfl (by decide) F (zal_a F ha21_0 (j := 27) rfl) hr dX19_box_187 (by unfold vp_in; decide) (fun H locs z164 ez164 hr => ?_)
    replace h := zl_sub ez164 h
    clear ez164
    refine lv_iinc (v := (11 : Int32)) (lv' := [(3, .int (11 : Int32)), (2, .ref (B21 12 n1)), (0, .ref (B21 19 x0)), (1, .int (1 : Int32))]) F.1 F.2.1 dX19_box_188 hl (k := 0) rfl (by decide) (by decide) rfl (fun ls hl => ?_)
    refine lv_goto (tgt := 161) F.1 F.2.1 dX19_box_191 (by decide) ?_
    refine lv_iload_n F.1 F.2.1 dX19_box_161 rfl (lv_at hl 0 rfl) ?_
    refine lv_bipush (v := (24 : Int32)) F.1 F.2.1 dX19_box_162 (by decide) ?_
    refine lv_icmp_ge (tgt := 194) F.1 F.2.1 dX19_box_164 (by decide) (fun hc => absurd hc (by decide)) (fun _ => ?_)
    refine lv_aload_n F.1 F.2.1 dX19_box_167 rfl (lv_at hl 1 rfl) ?_
    refine gf19_301 F ha21_0 hr dX19_box_168 ?_
    refine lv_iload_n F.1 F.2.1 dX19_box_171 rfl (lv_at hl 0 rfl) ?_
    refine lv_iconst (v := (-1 : Int32)) F.1 F.2.1 dX19_box_172 (by decide) ?_
    refine zr_iast (k := 155) (by decide) rfl (by decide) F (zal_a F ha21_0 (j := 25) rfl) hr dX19_box_173 (by unfold vp_in; decide) (fun H locs z166 ez166 hr => ?_)
    replace h := zl_sub ez166 h
    clear ez166
    refine lv_aload_n F.1 F.2.1 dX19_box_174 rfl (lv_at hl 1 rfl) ?_
    refine gf19_307 F ha21_0 hr dX19_box_175 ?_
    refine lv_iload_n F.1 F.2.1 dX19_box_178 rfl (lv_at hl 0 rfl) ?_
    refine lv_iconst (v := (-1 : Int32)) F.1 F.2.1 dX19_box_179 (by decide) ?_
    refine zr_iast (k := 156) (by decide) rfl (by decide) F (zal_a F ha21_0 (j := 26) rfl) hr dX19_box_180 (by unfold vp_in; decide) (fun H locs z168 ez168 hr => ?_)
    replace h := zl_sub ez168 h
    clear ez168
    refine lv_aload_n F.1 F.2.1 dX19_box_181 rfl (lv_at hl 1 rfl) ?_
    refine gf19_304 F ha21_0 hr dX19_box_182 ?_
    refine lv_iload_n F.1 F.2.1 dX19_box_185 rfl (lv_at hl 0 rfl) ?_
    refine lv_iconst (v := (-1 : Int32)) F.1 F.2.1 dX19_box_186 (by decide) ?_
    refine zr_iast (k := 157) (by decide) rfl (by decide) F (zal_a F ha21_0 (j := 27) rfl) hr dX19_box_187 (by unfold vp_in; decide) (fun H locs z170 ez170 hr => ?_)
    replace h := zl_sub ez170 h
    clear ez170
    refine lv_iinc (v := (12 : Int32)) (lv' := [(3, .int (12 : Int32)), (2, .ref (B21 12 n1)), (0, .ref (B21 19 x0)), (1, .int (1 : Int32))]) F.1 F.2.1 dX19_box_188 hl (k := 0) rfl (by decide) (by decide) rfl (fun ls hl => ?_)
    refine lv_goto (tgt := 161) F.1 F.2.1 dX19_box_191 (by decide) ?_
    refine lv_iload_n F.1 F.2.1 dX19_box_161 rfl (lv_at hl 0 rfl) ?_
    refine lv_bipush (v := (24 : Int32)) F.1 F.2.1 dX19_box_162 (by decide) ?_
    refine lv_icmp_ge (tgt := 194) F.1 F.2.1 dX19_box_164 (by decide) (fun hc => absurd hc (by decide)) (fun _ => ?_)
    refine lv_aload_n F.1 F.2.1 dX19_box_167 rfl (lv_at hl 1 rfl) ?_
    refine gf19_301 F ha21_0 hr dX19_box_168 ?_
    refine lv_iload_n F.1 F.2.1 dX19_box_171 rfl (lv_at hl 0 rfl) ?_
    refine lv_iconst (v := (-1 : Int32)) F.1 F.2.1 dX19_box_172 (by decide) ?_
    refine zr_iast (k := 155) (by decide) rfl (by decide) F (zal_a F ha21_0 (j := 25) rfl) hr dX19_box_173 (by unfold vp_in; decide) (fun H locs z172 ez172 hr => ?_)
    replace h := zl_sub ez172 h
    clear ez172
    refine lv_aload_n F.1 F.2.1 dX19_box_174 rfl (lv_at hl 1 rfl) ?_
    refine gf19_307 F ha21_0 hr dX19_box_175 ?_
    refine lv_iload_n F.1 F.2.1 dX19_box_178 rfl (lv_at hl 0 rfl) ?_
    refine lv_iconst (v := (-1 : Int32)) F.1 F.2.1 dX19_box_179 (by decide) ?_
    refine zr_iast (k := 156) (by decide) rfl (by decide) F (zal_a F ha21_0 (j := 26) rfl) hr dX19_box_180 (by unfold vp_in; decide) (fun H locs z174 ez174 hr => ?_)
    replace h := zl_sub ez174 h
    clear ez174
    refine lv_aload_n F.1 F.2.1 dX19_box_181 rfl (lv_at hl 1 rfl) ?_
    refine gf19_304 F ha21_0 hr dX19_box_182 ?_
    refine lv_iload_n F.1 F.2.1 dX19_box_185 rfl (lv_at hl 0 rfl) ?_
    refine lv_iconst (v := (-1 : Int32)) F.1 F.2.1 dX19_box_186 (by decide) ?_
    refine zr_iast (k := 157) (by decide) rfl (by decide) F (zal_a F ha21_0 (j := 27) rfl) hr dX19_box_187 (by unfold vp_in; decide) (fun H locs z176 ez176 hr => ?_)
    replace h := zl_sub ez176 h
    clear ez176
    refine lv_iinc (v := (13 : Int32)) (lv' := [(3, .int (13 : Int32)), (2, .ref (B21 12 n1)), (0, .ref (B21 19 x0)), (1, .int (1 : Int32))]) F.1 F.2.1 dX19_box_188 hl (k := 0) rfl (by decide) (by decide) rfl (fun ls hl => ?_)
    refine lv_goto (tgt := 161) F.1 F.2.1 dX19_box_191 (by decide) ?_
    refine lv_iload_n F.1 F.2.1 dX19_box_161 rfl (lv_at hl 0 rfl) ?_
    refine lv_bipush (v := (24 : Int32)) F.1 F.2.1 dX19_box_162 (by decide) ?_
    refine lv_icmp_ge (tgt := 194) F.1 F.2.1 dX19_box_164 (by decide) (fun hc => absurd hc (by decide)) (fun _ => ?_)
    refine lv_aload_n F.1 F.2.1 dX19_box_167 rfl (lv_at hl 1 rfl) ?_
    refine gf19_301 F ha21_0 hr dX19_box_168 ?_
    refine lv_iload_n F.1 F.2.1 dX19_box_171 rfl (lv_at hl 0 rfl) ?_
    refine lv_iconst (v := (-1 : Int32)) F.1 F.2.1 dX19_box_172 (by decide) ?_
    refine zr_iast (k := 155) (by decide) rfl (by decide) F (zal_a F ha21_0 (j := 25) rfl) hr dX19_box_173 (by unfold vp_in; decide) (fun H locs z178 ez178 hr => ?_)
    replace h := zl_sub ez178 h
    clear ez178
    refine lv_aload_n F.1 F.2.1 dX19_box_174 rfl (lv_at hl 1 rfl) ?_
    refine gf19_307 F ha21_0 hr dX19_box_175 ?_
    refine lv_iload_n F.1 F.2.1 dX19_box_178 rfl (lv_at hl 0 rfl) ?_
    refine lv_iconst (v := (-1 : Int32)) F.1 F.2.1 dX19_box_179 (by decide) ?_
    refine zr_iast (k := 156) (by decide) rfl (by decide) F (zal_a F ha21_0 (j := 26) rfl) hr dX19_box_180 (by unfold vp_in; decide) (fun H locs z180 ez180 hr => ?_)
    replace h := zl_sub ez180 h
    clear ez180
    refine lv_aload_n F.1 F.2.1 dX19_box_181 rfl (lv_at hl 1 rfl) ?_
    refine gf19_304 F ha21_0 hr dX19_box_182 ?_
    refine lv_iload_n F.1 F.2.1 dX19_box_185 rfl (lv_at hl 0 rfl) ?_
    refine lv_iconst (v := (-1 : Int32)) F.1 F.2.1 dX19_box_186 (by decide) ?_
    refine zr_iast (k := 157) (by decide) rfl (by decide) F (zal_a F ha21_0 (j := 27) rfl) hr dX19_box_187 (by unfold vp_in; decide) (fun H locs z182 ez182 hr => ?_)
    replace h := zl_sub ez182 h
    clear ez182
    refine lv_iinc (v := (14 : Int32)) (lv' := [(3, .int (14 : Int32)), (2, .ref (B21 12 n1)), (0, .ref (B21 19 x0)), (1, .int (1 : Int32))]) F.1 F.2.1 dX19_box_188 hl (k := 0) rfl (by decide) (by decide) rfl (fun ls hl => ?_)
    refine lv_goto (tgt := 161) F.1 F.2.1 dX19_box_191 (by decide) ?_
    refine lv_iload_n F.1 F.2.1 dX19_box_161 rfl (lv_at hl 0 rfl) ?_
    refine lv_bipush (v := (24 : Int32)) F.1 F.2.1 dX19_box_162 (by decide) ?_
    refine lv_icmp_ge (tgt := 194) F.1 F.2.1 dX19_box_164 (by decide) (fun hc => absurd hc (by decide)) (fun _ => ?_)
    refine lv_aload_n F.1 F.2.1 dX19_box_167 rfl (lv_at hl 1 rfl) ?_
    refine gf19_301 F ha21_0 hr dX19_box_168 ?_
    refine lv_iload_n F.1 F.2.1 dX19_box_171 rfl (lv_at hl 0 rfl) ?_
    refine lv_iconst (v := (-1 : Int32)) F.1 F.2.1 dX19_box_172 (by decide) ?_
    refine zr_iast (k := 155) (by decide) rfl (by decide) F (zal_a F ha21_0 (j := 25) rfl) hr dX19_box_173 (by unfold vp_in; decide) (fun H locs z184 ez184 hr => ?_)
    replace h := zl_sub ez184 h
    clear ez184
    refine lv_aload_n F.1 F.2.1 dX19_box_174 rfl (lv_at hl 1 rfl) ?_
    refine gf19_307 F ha21_0 hr dX19_box_175 ?_
    refine lv_iload_n F.1 F.2.1 dX19_box_178 rfl (lv_at hl 0 rfl) ?_
    refine lv_iconst (v := (-1 : Int32)) F.1 F.2.1 dX19_box_179 (by decide) ?_
    refine zr_iast (k := 156) (by decide) rfl (by decide) F (zal_a F ha21_0 (j := 26) rfl) hr dX19_box_180 (by unfold vp_in; decide) (fun H locs z186 ez186 hr => ?_)
    replace h := zl_sub ez186 h
    clear ez186
    refine lv_aload_n F.1 F.2.1 dX19_box_181 rfl (lv_at hl 1 rfl) ?_
    refine gf19_304 F ha21_0 hr dX19_box_182 ?_
    refine lv_iload_n F.1 F.2.1 dX19_box_185 rfl (lv_at hl 0 rfl) ?_
    refine lv_iconst (v := (-1 : Int32)) F.1 F.2.1 dX19_box_186 (by decide) ?_
    refine zr_iast (k := 157) (by decide) rfl (by decide) F (zal_a F ha21_0 (j := 27) rfl) hr dX19_box_187 (by unfold vp_in; decide) (fun H locs z188 ez188 hr => ?_)
    replace h := zl_sub ez188 h
    clear ez188
    refine lv_iinc (v := (15 : Int32)) (lv' := [(3, .int (15 : Int32)), (2, .ref (B21 12 n1)), (0, .ref (B21 19 x0)), (1, .int (1 : Int32))]) F.1 F.2.1 dX19_box_188 hl (k := 0) rfl (by decide) (by decide) rfl (fun ls hl => ?_)
    refine lv_goto (tgt := 161) F.1 F.2.1 dX19_box_191 (by decide) ?_
    refine lv_iload_n F.1 F.2.1 dX19_box_161 rfl (lv_at hl 0 rfl) ?_
    refine lv_bipush (v := (24 : Int32)) F.1 F.2.1 dX19_box_162 (by decide) ?_
    refine lv_icmp_ge (tgt := 194) F.1 F.2.1 dX19_box_164 (by decide) (fun hc => absurd hc (by decide)) (fun _ => ?_)
    refine lv_aload_n F.1 F.2.1 dX19_box_167 rfl (lv_at hl 1 rfl) ?_
    refine gf19_301 F ha21_0 hr dX19_box_168 ?_
    refine lv_iload_n F.1 F.2.1 dX19_box_171 rfl (lv_at hl 0 rfl) ?_
    refine lv_iconst (v := (-1 : Int32)) F.1 F.2.1 dX19_box_172 (by decide) ?_
    refine zr_iast (k := 155) (by decide) rfl (by decide) F (zal_a F ha21_0 (j := 25) rfl) hr dX19_box_173 (by unfold vp_in; decide) (fun H locs z190 ez190 hr => ?_)
    replace h := zl_sub ez190 h
    clear ez190
    refine lv_aload_n F.1 F.2.1 dX19_box_174 rfl (lv_at hl 1 rfl) ?_
    refine gf19_307 F ha21_0 hr dX19_box_175 ?_
    refine lv_iload_n F.1 F.2.1 dX19_box_178 rfl (lv_at hl 0 rfl) ?_
    refine lv_iconst (v := (-1 : Int32)) F.1 F.2.1 dX19_box_179 (by decide) ?_
    refine zr_iast (k := 156) (by decide) rfl (by decide) F (zal_a F ha21_0 (j := 26) rfl) hr dX19_box_180 (by unfold vp_in; decide) (fun H locs z192 ez192 hr => ?_)
    replace h := zl_sub ez192 h
    clear ez192
    refine lv_aload_n F.1 F.2.1 dX19_box_181 rfl (lv_at hl 1 rfl) ?_
    refine gf19_304 F ha21_0 hr dX19_box_182 ?_
    refine lv_iload_n F.1 F.2.1 dX19_box_185 rfl (lv_at hl 0 rfl) ?_
    refine lv_iconst (v := (-1 : Int32)) F.1 F.2.1 dX19_box_186 (by decide) ?_
    refine zr_iast (k := 157) (by decide) rfl (by decide) F (zal_a F ha21_0 (j := 27) rfl) hr dX19_box_187 (by unfold vp_in; decide) (fun H locs z194 ez194 hr => ?_)
    replace h := zl_sub ez194 h
    clear ez194
    refine lv_iinc (v := (16 : Int32)) (lv' := [(3, .int (16 : Int32)), (2, .ref (B21 12 n1)), (0, .ref (B21 19 x0)), (1, .int (1 : Int32))]) F.1 F.2.1 dX19_box_188 hl (k := 0) rfl (by decide) (by decide) rfl (fun ls hl => ?_)
    refine lv_goto (tgt := 161) F.1 F.2.1 dX19_box_191 (by decide) ?_
    refine lv_iload_n F.1 F.2.1 dX19_box_161 rfl (lv_at hl 0 rfl) ?_
    refine lv_bipush (v := (24 : Int32)) F.1 F.2.1 dX19_box_162 (by decide) ?_
    refine lv_icmp_ge (tgt := 194) F.1 F.2.1 dX19_box_164 (by decide) (fun hc => absurd hc (by decide)) (fun _ => ?_)
    refine lv_aload_n F.1 F.2.1 dX19_box_167 rfl (lv_at hl 1 rfl) ?_
    refine gf19_301 F ha21_0 hr dX19_box_168 ?_
    refine lv_iload_n F.1 F.2.1 dX19_box_171 rfl (lv_at hl 0 rfl) ?_
    refine lv_iconst (v := (-1 : Int32)) F.1 F.2.1 dX19_box_172 (by decide) ?_
    refine zr_iast (k := 155) (by decide) rfl (by decide) F (zal_a F ha21_0 (j := 25) rfl) hr dX19_box_173 (by unfold vp_in; decide) (fun H locs z196 ez196 hr => ?_)
    replace h := zl_sub ez196 h
    clear ez196
    refine lv_aload_n F.1 F.2.1 dX19_box_174 rfl (lv_at hl 1 rfl) ?_
    refine gf19_307 F ha21_0 hr dX19_box_175 ?_
    refine lv_iload_n F.1 F.2.1 dX19_box_178 rfl (lv_at hl 0 rfl) ?_
    refine lv_iconst (v := (-1 : Int32)) F.1 F.2.1 dX19_box_179 (by decide) ?_
    refine zr_iast (k := 156) (by decide) rfl (by decide) F (zal_a F ha21_0 (j := 26) rfl) hr dX19_box_180 (by unfold vp_in; decide) (fun H locs z198 ez198 hr => ?_)
    replace h := zl_sub ez198 h
    clear ez198
    refine lv_aload_n F.1 F.2.1 dX19_box_181 rfl (lv_at hl 1 rfl) ?_
    refine gf19_304 F ha21_0 hr dX19_box_182 ?_
    refine lv_iload_n F.1 F.2.1 dX19_box_185 rfl (lv_at hl 0 rfl) ?_
    refine lv_iconst (v := (-1 : Int32)) F.1 F.2.1 dX19_box_186 (by decide) ?_
    refine zr_iast (k := 157) (by decide) rfl (by decide) F (zal_a F ha21_0 (j := 27) rfl) hr dX19_box_187 (by unfold vp_in; decide) (fun H locs z200 ez200 hr => ?_)
    replace h := zl_sub ez200 h
    clear ez200
    refine lv_iinc (v := (17 : Int32)) (lv' := [(3, .int (17 : Int32)), (2, .ref (B21 12 n1)), (0, .ref (B21 19 x0)), (1, .int (1 : Int32))]) F.1 F.2.1 dX19_box_188 hl (k := 0) rfl (by decide) (by decide) rfl (fun ls hl => ?_)
    refine lv_goto (tgt := 161) F.1 F.2.1 dX19_box_191 (by decide) ?_
    refine lv_iload_n F.1 F.2.1 dX19_box_161 rfl (lv_at hl 0 rfl) ?_
    refine lv_bipush (v := (24 : Int32)) F.1 F.2.1 dX19_box_162 (by decide) ?_
    refine lv_icmp_ge (tgt := 194) F.1 F.2.1 dX19_box_164 (by decide) (fun hc => absurd hc (by decide)) (fun _ => ?_)
    refine lv_aload_n F.1 F.2.1 dX19_box_167 rfl (lv_at hl 1 rfl) ?_
    refine gf19_301 F ha21_0 hr dX19_box_168 ?_
    refine lv_iload_n F.1 F.2.1 dX19_box_171 rfl (lv_at hl 0 rfl) ?_
    refine lv_iconst (v := (-1 : Int32)) F.1 F.2.1 dX19_box_172 (by decide) ?_
    refine zr_iast (k := 155) (by decide) rfl (by decide) F (zal_a F ha21_0 (j := 25) rfl) hr dX19_box_173 (by unfold vp_in; decide) (fun H locs z202 ez202 hr => ?_)
    replace h := zl_sub ez202 h
    clear ez202
    refine lv_aload_n F.1 F.2.1 dX19_box_174 rfl (lv_at hl 1 rfl) ?_
    refine gf19_307 F ha21_0 hr dX19_box_175 ?_
    refine lv_iload_n F.1 F.2.1 dX19_box_178 rfl (lv_at hl 0 rfl) ?_
    refine lv_iconst (v := (-1 : Int32)) F.1 F.2.1 dX19_box_179 (by decide) ?_
    refine zr_iast (k := 156) (by decide) rfl (by decide) F (zal_a F ha21_0 (j := 26) rfl) hr dX19_box_180 (by unfold vp_in; decide) (fun H locs z204 ez204 hr => ?_)
    replace h := zl_sub ez204 h
    clear ez204
    refine lv_aload_n F.1 F.2.1 dX19_box_181 rfl (lv_at hl 1 rfl) ?_
    refine gf19_304 F ha21_0 hr dX19_box_182 ?_
    refine lv_iload_n F.1 F.2.1 dX19_box_185 rfl (lv_at hl 0 rfl) ?_
    refine lv_iconst (v := (-1 : Int32)) F.1 F.2.1 dX19_box_186 (by decide) ?_
    refine zr_iast (k := 157) (by decide) rfl (by decide) F (zal_a F ha21_0 (j := 27) rfl) hr dX19_box_187 (by unfold vp_in; decide) (fun H locs z206 ez206 hr => ?_)
    replace h := zl_sub ez206 h
    clear ez206
    refine lv_iinc (v := (18 : Int32)) (lv' := [(3, .int (18 : Int32)), (2, .ref (B21 12 n1)), (0, .ref (B21 19 x0)), (1, .int (1 : Int32))]) F.1 F.2.1 dX19_box_188 hl (k := 0) rfl (by decide) (by decide) rfl (fun ls hl => ?_)
    refine lv_goto (tgt := 161) F.1 F.2.1 dX19_box_191 (by decide) ?_
    refine lv_iload_n F.1 F.2.1 dX19_box_161 rfl (lv_at hl 0 rfl) ?_
    refine lv_bipush (v := (24 : Int32)) F.1 F.2.1 dX19_box_162 (by decide) ?_
    refine lv_icmp_ge (tgt := 194) F.1 F.2.1 dX19_box_164 (by decide) (fun hc => absurd hc (by decide)) (fun _ => ?_)
    refine lv_aload_n F.1 F.2.1 dX19_box_167 rfl (lv_at hl 1 rfl) ?_
    refine gf19_301 F ha21_0 hr dX19_box_168 ?_
    refine lv_iload_n F.1 F.2.1 dX19_box_171 rfl (lv_at hl 0 rfl) ?_
    refine lv_iconst (v := (-1 : Int32)) F.1 F.2.1 dX19_box_172 (by decide) ?_
    refine zr_iast (k := 155) (by decide) rfl (by decide) F (zal_a F ha21_0 (j := 25) rfl) hr dX19_box_173 (by unfold vp_in; decide) (fun H locs z208 ez208 hr => ?_)
    replace h := zl_sub ez208 h
    clear ez208
    refine lv_aload_n F.1 F.2.1 dX19_box_174 rfl (lv_at hl 1 rfl) ?_
    refine gf19_307 F ha21_0 hr dX19_box_175 ?_
    refine lv_iload_n F.1 F.2.1 dX19_box_178 rfl (lv_at hl 0 rfl) ?_
    refine lv_iconst (v := (-1 : Int32)) F.1 F.2.1 dX19_box_179 (by decide) ?_
    refine zr_iast (k := 156) (by decide) rfl (by decide) F (zal_a F ha21_0 (j := 26) rfl) hr dX19_box_180 (by unfold vp_in; decide) (fun H locs z210 ez210 hr => ?_)
    replace h := zl_sub ez210 h
    clear ez210
    refine lv_aload_n F.1 F.2.1 dX19_box_181 rfl (lv_at hl 1 rfl) ?_
    refine gf19_304 F ha21_0 hr dX19_box_182 ?_
    refine lv_iload_n F.1 F.2.1 dX19_box_185 rfl (lv_at hl 0 rfl) ?_
    refine lv_iconst (v := (-1 : Int32)) F.1 F.2.1 dX19_box_186 (by decide) ?_
    refine zr_iast (k := 157) (by decide) rfl (by decide) F (zal_a F ha21_0 (j := 27) rfl) hr dX19_box_187 (by unfold vp_in; decide) (fun H locs z212 ez212 hr => ?_)
    replace h := zl_sub ez212 h
    clear ez212
    refine lv_iinc (v := (19 : Int32)) (lv' := [(3, .int (19 : Int32)), (2, .ref (B21 12 n1)), (0, .ref (B21 19 x0)), (1, .int (1 : Int32))]) F.1 F.2.1 dX19_box_188 hl (k := 0) rfl (by decide) (by decide) rfl (fun ls hl => ?_)
    refine lv_goto (tgt := 161) F.1 F.2.1 dX19_box_191 (by decide) ?_
    refine lv_iload_n F.1 F.2.1 dX19_box_161 rfl (lv_at hl 0 rfl) ?_
    refine lv_bipush (v := (24 : Int32)) F.1 F.2.1 dX19_box_162 (by decide) ?_
    refine lv_icmp_ge (tgt := 194) F.1 F.2.1 dX19_box_164 (by decide) (fun hc => absurd hc (by decide)) (fun _ => ?_)
    refine lv_aload_n F.1 F.2.1 dX19_box_167 rfl (lv_at hl 1 rfl) ?_
    refine gf19_301 F ha21_0 hr dX19_box_168 ?_
    refine lv_iload_n F.1 F.2.1 dX19_box_171 rfl (lv_at hl 0 rfl) ?_
    refine lv_iconst (v := (-1 : Int32)) F.1 F.2.1 dX19_box_172 (by decide) ?_
    refine zr_iast (k := 155) (by decide) rfl (by decide) F (zal_a F ha21_0 (j := 25) rfl) hr dX19_box_173 (by unfold vp_in; decide) (fun H locs z214 ez214 hr => ?_)
    replace h := zl_sub ez214 h
    clear ez214
    refine lv_aload_n F.1 F.2.1 dX19_box_174 rfl (lv_at hl 1 rfl) ?_
    refine gf19_307 F ha21_0 hr dX19_box_175 ?_
    refine lv_iload_n F.1 F.2.1 dX19_box_178 rfl (lv_at hl 0 rfl) ?_
    refine lv_iconst (v := (-1 : Int32)) F.1 F.2.1 dX19_box_179 (by decide) ?_
    refine zr_iast (k := 156) (by decide) rfl (by decide) F (zal_a F ha21_0 (j := 26) rfl) hr dX19_box_180 (by unfold vp_in; decide) (fun H locs z216 ez216 hr => ?_)
    replace h := zl_sub ez216 h
    clear ez216
    refine lv_aload_n F.1 F.2.1 dX19_box_181 rfl (lv_at hl 1 rfl) ?_
    refine gf19_304 F ha21_0 hr dX19_box_182 ?_
    refine lv_iload_n F.1 F.2.1 dX19_box_185 rfl (lv_at hl 0 rfl) ?_
    refine lv_iconst (v := (-1 : Int32)) F.1 F.2.1 dX19_box_186 (by decide) ?_
    refine zr_iast (k := 157) (by decide) rfl (by decide) F (zal_a F ha21_0 (j := 27) rfl) hr dX19_box_187 (by unfold vp_in; decide) (fun H locs z218 ez218 hr => ?_)
    replace h := zl_sub ez218 h
    clear ez218
    refine lv_iinc (v := (20 : Int32)) (lv' := [(3, .int (20 : Int32)), (2, .ref (B21 12 n1)), (0, .ref (B21 19 x0)), (1, .int (1 : Int32))]) F.1 F.2.1 dX19_box_188 hl (k := 0) rfl (by decide) (by decide) rfl (fun ls hl => ?_)
    refine lv_goto (tgt := 161) F.1 F.2.1 dX19_box_191 (by decide) ?_
    refine lv_iload_n F.1 F.2.1 dX19_box_161 rfl (lv_at hl 0 rfl) ?_
    refine lv_bipush (v := (24 : Int32)) F.1 F.2.1 dX19_box_162 (by decide) ?_
    refine lv_icmp_ge (tgt := 194) F.1 F.2.1 dX19_box_164 (by decide) (fun hc => absurd hc (by decide)) (fun _ => ?_)
    refine lv_aload_n F.1 F.2.1 dX19_box_167 rfl (lv_at hl 1 rfl) ?_
    refine gf19_301 F ha21_0 hr dX19_box_168 ?_
    refine lv_iload_n F.1 F.2.1 dX19_box_171 rfl (lv_at hl 0 rfl) ?_
    refine lv_iconst (v := (-1 : Int32)) F.1 F.2.1 dX19_box_172 (by decide) ?_
    refine zr_iast (k := 155) (by decide) rfl (by decide) F (zal_a F ha21_0 (j := 25) rfl) hr dX19_box_173 (by unfold vp_in; decide) (fun H locs z220 ez220 hr => ?_)
    replace h := zl_sub ez220 h
    clear ez220
    refine lv_aload_n F.1 F.2.1 dX19_box_174 rfl (lv_at hl 1 rfl) ?_
    refine gf19_307 F ha21_0 hr dX19_box_175 ?_
    refine lv_iload_n F.1 F.2.1 dX19_box_178 rfl (lv_at hl 0 rfl) ?_
    refine lv_iconst (v := (-1 : Int32)) F.1 F.2.1 dX19_box_179 (by decide) ?_
    refine zr_iast (k := 156) (by decide) rfl (by decide) F (zal_a F ha21_0 (j := 26) rfl) hr dX19_box_180 (by unfold vp_in; decide) (fun H locs z222 ez222 hr => ?_)
    replace h := zl_sub ez222 h
    clear ez222
    refine lv_aload_n F.1 F.2.1 dX19_box_181 rfl (lv_at hl 1 rfl) ?_
    refine gf19_304 F ha21_0 hr dX19_box_182 ?_
    refine lv_iload_n F.1 F.2.1 dX19_box_185 rfl (lv_at hl 0 rfl) ?_
    refine lv_iconst (v := (-1 : Int32)) F.1 F.2.1 dX19_box_186 (by decide) ?_
    refine zr_iast (k := 157) (by decide) rfl (by decide) F (zal_a F ha21_0 (j := 27) rfl) hr dX19_box_187 (by unfold vp_in; decide) (fun H locs z224 ez224 hr => ?_)
    replace h := zl_sub ez224 h
    clear ez224
    refine lv_iinc (v := (21 : Int32)) (lv' := [(3, .int (21 : Int32)), (2, .ref (B21 12 n1)), (0, .ref (B21 19 x0)), (1, .int (1 : Int32))]) F.1 F.2.1 dX19_box_188 hl (k := 0) rfl (by decide) (by decide) rfl (fun ls hl => ?_)
    refine lv_goto (tgt := 161) F.1 F.2.1 dX19_box_191 (by decide) ?_
    refine lv_iload_n F.1 F.2.1 dX19_box_161 rfl (lv_at hl 0 rfl) ?_
    refine lv_bipush (v := (24 : Int32)) F.1 F.2.1 dX19_box_162 (by decide) ?_
    refine lv_icmp_ge (tgt := 194) F.1 F.2.1 dX19_box_164 (by decide) (fun hc => absurd hc (by decide)) (fun _ => ?_)
    refine lv_aload_n F.1 F.2.1 dX19_box_167 rfl (lv_at hl 1 rfl) ?_
    refine gf19_301 F ha21_0 hr dX19_box_168 ?_
    refine lv_iload_n F.1 F.2.1 dX19_box_171 rfl (lv_at hl 0 rfl) ?_
    refine lv_iconst (v := (-1 : Int32)) F.1 F.2.1 dX19_box_172 (by decide) ?_
    refine zr_iast (k := 155) (by decide) rfl (by decide) F (zal_a F ha21_0 (j := 25) rfl) hr dX19_box_173 (by unfold vp_in; decide) (fun H locs z226 ez226 hr => ?_)
    replace h := zl_sub ez226 h
    clear ez226
    refine lv_aload_n F.1 F.2.1 dX19_box_174 rfl (lv_at hl 1 rfl) ?_
    refine gf19_307 F ha21_0 hr dX19_box_175 ?_
    refine lv_iload_n F.1 F.2.1 dX19_box_178 rfl (lv_at hl 0 rfl) ?_
    refine lv_iconst (v := (-1 : Int32)) F.1 F.2.1 dX19_box_179 (by decide) ?_
    refine zr_iast (k := 156) (by decide) rfl (by decide) F (zal_a F ha21_0 (j := 26) rfl) hr dX19_box_180 (by unfold vp_in; decide) (fun H locs z228 ez228 hr => ?_)
    replace h := zl_sub ez228 h
    clear ez228
    refine lv_aload_n F.1 F.2.1 dX19_box_181 rfl (lv_at hl 1 rfl) ?_
    refine gf19_304 F ha21_0 hr dX19_box_182 ?_
    refine lv_iload_n F.1 F.2.1 dX19_box_185 rfl (lv_at hl 0 rfl) ?_
    refine lv_iconst (v := (-1 : Int32)) F.1 F.2.1 dX19_box_186 (by decide) ?_
    refine zr_iast (k := 157) (by decide) rfl (by decide) F (zal_a F ha21_0 (j := 27) rfl) hr dX19_box_187 (by unfold vp_in; decide) (fun H locs z230 ez230 hr => ?_)
    replace h := zl_sub ez230 h
    clear ez230
    refine lv_iinc (v := (22 : Int32)) (lv' := [(3, .int (22 : Int32)), (2, .ref (B21 12 n1)), (0, .ref (B21 19 x0)), (1, .int (1 : Int32))]) F.1 F.2.1 dX19_box_188 hl (k := 0) rfl (by decide) (by decide) rfl (fun ls hl => ?_)
    refine lv_goto (tgt := 161) F.1 F.2.1 dX19_box_191 (by decide) ?_
    refine lv_iload_n F.1 F.2.1 dX19_box_161 rfl (lv_at hl 0 rfl) ?_
    refine lv_bipush (v := (24 : Int32)) F.1 F.2.1 dX19_box_162 (by decide) ?_
    refine lv_icmp_ge (tgt := 194) F.1 F.2.1 dX19_box_164 (by decide) (fun hc => absurd hc (by decide)) (fun _ => ?_)
    refine lv_aload_n F.1 F.2.1 dX19_box_167 rfl (lv_at hl 1 rfl) ?_
    refine gf19_301 F ha21_0 hr dX19_box_168 ?_
    refine lv_iload_n F.1 F.2.1 dX19_box_171 rfl (lv_at hl 0 rfl) ?_
    refine lv_iconst (v := (-1 : Int32)) F.1 F.2.1 dX19_box_172 (by decide) ?_
    refine zr_iast (k := 155) (by decide) rfl (by decide) F (zal_a F ha21_0 (j := 25) rfl) hr dX19_box_173 (by unfold vp_in; decide) (fun H locs z232 ez232 hr => ?_)
    replace h := zl_sub ez232 h
    clear ez232
    refine lv_aload_n F.1 F.2.1 dX19_box_174 rfl (lv_at hl 1 rfl) ?_
    refine gf19_307 F ha21_0 hr dX19_box_175 ?_
    refine lv_iload_n F.1 F.2.1 dX19_box_178 rfl (lv_at hl 0 rfl) ?_
    refine lv_iconst (v := (-1 : Int32)) F.1 F.2.1 dX19_box_179 (by decide) ?_
    refine zr_iast (k := 156) (by decide) rfl (by decide) F (zal_a F ha21_0 (j := 26) rfl) hr dX19_box_180 (by unfold vp_in; decide) (fun H locs z234 ez234 hr => ?_)
    replace h := zl_sub ez234 h
    clear ez234
    refine lv_aload_n F.1 F.2.1 dX19_box_181 rfl (lv_at hl 1 rfl) ?_
    refine gf19_304 F ha21_0 hr dX19_box_182 ?_
    refine lv_iload_n F.1 F.2.1 dX19_box_185 rfl (lv_at hl 0 rfl) ?_
    refine lv_iconst (v := (-1 : Int32)) F.1 F.2.1 dX19_box_186 (by decide) ?_
    refine zr_iast (k := 157) (by decide) rfl (by decide) F (zal_a F ha21_0 (j := 27) rfl) hr dX19_box_187 (by unfold vp_in; decide) (fun H locs z236 ez236 hr => ?_)
    replace h := zl_sub ez236 h
    clear ez236
    refine lv_iinc (v := (23 : Int32)) (lv' := [(3, .int (23 : Int32)), (2, .ref (B21 12 n1)), (0, .ref (B21 19 x0)), (1, .int (1 : Int32))]) F.1 F.2.1 dX19_box_188 hl (k := 0) rfl (by decide) (by decide) rfl (fun ls hl => ?_)
    refine lv_goto (tgt := 161) F.1 F.2.1 dX19_box_191 (by decide) ?_
    refine lv_iload_n F.1 F.2.1 dX19_box_161 rfl (lv_at hl 0 rfl) ?_
    refine lv_bipush (v := (24 : Int32)) F.1 F.2.1 dX19_box_162 (by decide) ?_
    refine lv_icmp_ge (tgt := 194) F.1 F.2.1 dX19_box_164 (by decide) (fun hc => absurd hc (by decide)) (fun _ => ?_)
    refine lv_aload_n F.1 F.2.1 dX19_box_167 rfl (lv_at hl 1 rfl) ?_
    refine gf19_301 F ha21_0 hr dX19_box_168 ?_
    refine lv_iload_n F.1 F.2.1 dX19_box_171 rfl (lv_at hl 0 rfl) ?_
    refine lv_iconst (v := (-1 : Int32)) F.1 F.2.1 dX19_box_172 (by decide) ?_
    refine zr_iast (k := 155) (by decide) rfl (by decide) F (zal_a F ha21_0 (j := 25) rfl) hr dX19_box_173 (by unfold vp_in; decide) (fun H locs z238 ez238 hr => ?_)
    replace h := zl_sub ez238 h
    clear ez238
    refine lv_aload_n F.1 F.2.1 dX19_box_174 rfl (lv_at hl 1 rfl) ?_
    refine gf19_307 F ha21_0 hr dX19_box_175 ?_
    refine lv_iload_n F.1 F.2.1 dX19_box_178 rfl (lv_at hl 0 rfl) ?_
    refine lv_iconst (v := (-1 : Int32)) F.1 F.2.1 dX19_box_179 (by decide) ?_
    refine zr_iast (k := 156) (by decide) rfl (by decide) F (zal_a F ha21_0 (j := 26) rfl) hr dX19_box_180 (by unfold vp_in; decide) (fun H locs z240 ez240 hr => ?_)
    replace h := zl_sub ez240 h
    clear ez240
    refine lv_aload_n F.1 F.2.1 dX19_box_181 rfl (lv_at hl 1 rfl) ?_
    refine gf19_304 F ha21_0 hr dX19_box_182 ?_
    refine lv_iload_n F.1 F.2.1 dX19_box_185 rfl (lv_at hl 0 rfl) ?_
    refine lv_iconst (v := (-1 : Int32)) F.1 F.2.1 dX19_box_186 (by decide) ?_
    refine zr_iast (k := 157) (by decide) rfl (by decide) F (zal_a F ha21_0 (j := 27) rfl) hr dX19_box_187 (by unfold vp_in; decide) (fun H locs z242 ez242 hr => ?_)
    replace h := zl_sub ez242 h
    clear ez242
    refine lv_iinc (v := (24 : Int32)) (lv' := [(3, .int (24 : Int32)), (2, .ref (B21 12 n1)), (0, .ref (B21 19 x0)), (1, .int (1 : Int32))]) F.1 F.2.1 dX19_box_188 hl (k := 0) rfl (by decide) (by decide) rfl (fun ls hl => ?_)
    refine lv_goto (tgt := 161) F.1 F.2.1 dX19_box_191 (by decide) ?_
    refine lv_iload_n F.1 F.2.1 dX19_box_161 rfl (lv_at hl 0 rfl) ?_
    refine lv_bipush (v := (24 : Int32)) F.1 F.2.1 dX19_box_162 (by decide) ?_
    refine lv_icmp_ge (tgt := 194) F.1 F.2.1 dX19_box_164 (by decide) (fun _ => ?_) (fun hc => absurd (by decide) hc)
    refine lv_aload_n F.1 F.2.1 dX19_box_194 rfl (lv_at hl 2 rfl) ?_
    refine gf19_114 F ha21_1 hr dX19_box_195 ?_
    refine lv_aload_n F.1 F.2.1 dX19_box_198 rfl (lv_at hl 2 rfl) ?_
    refine gf19_831 F ha21_1 hr dX19_box_199 ?_
    refine lv_aload_n F.1 F.2.1 dX19_box_202 rfl (lv_at hl 1 rfl) ?_
    replace h := zk_some h
    obtain ⟨c243, h⟩ := h
    refine zr_aast (k := 186) (v := (some n1)) (T := TX12) (N := 30) (by decide) rfl (by decide) rfl rfl F (zal_a F ha21_1 (j := 18) rfl) hr dX19_box_203 (by rw [zlen_d (by decide)]; exact c243) (zal_s ha21_0) (fun H locs z244 ez244 hr => ?_)
    replace h := zl_sub ez244 h
    clear ez244
    refine lv_aload_n F.1 F.2.1 dX19_box_204 rfl (lv_at hl 2 rfl) ?_
    refine lv_dup F.1 F.2.1 dX19_box_205 rfl ?_
    refine gf19_831 F ha21_1 hr dX19_box_206 ?_
    refine lv_iconst (v := (1 : Int32)) F.1 F.2.1 dX19_box_209 (by decide) ?_
    refine lv_iadd F.1 F.2.1 dX19_box_210 ?_
    refine pf19_831 F ha21_1 hr dX19_box_211 ((zgI z244 19 19 x0) + (1 : Int32)) (fun H locs z245 ez245 hr => ?_)
    replace h := zl_sub ez245 h
    clear ez245
    refine lv_aload_n F.1 F.2.1 dX19_box_214 rfl (lv_at hl 2 rfl) ?_
    replace h := zc_some h
    obtain ⟨r246, z247, hc248, h⟩ := h
    refine zr_callv (zrun_V (As := []) (rest := []) zq_2394 zq_2396 zs_X19_stir zq_2397 zq_4 hdX19_stir (by decide) (T := TX19) (N := 32) rfl (okX19_stir l D cy B21 I21 hst N x0 ha21_1 hr.2.2 hc248) F hr ha21_1 hl.1 rfl (by decide) dX19_box_215 rfl rfl (hroX19_box_1_X19_stir RC RS) ⟨Nat.le_trans (Nat.le_of_ble_eq_true rfl) hca21, Nat.le_trans (Nat.le_of_ble_eq_true rfl) hcb21⟩) F hA hr (fun H locs hw249 hr => ?_)
    clear hc248
    refine lv_aload_n F.1 F.2.1 dX19_box_218 rfl (lv_at hl 1 rfl) ?_
    refine gf19_310 F ha21_0 hr dX19_box_219 ?_
    obtain ⟨rfl, rfl, rfl⟩ := zret3 h
    exact zme_i F hx hst h9 hret hlocks dX19_box_222 hr (Nat.le_trans (Nat.le_of_ble_eq_true rfl) hca21) (Nat.le_trans (Nat.le_of_ble_eq_true rfl) hcb21)
  · replace h := zi_f c3 h
    refine lv_iconst (v := (0 : Int32)) F.1 F.2.1 dX19_box_25 (by decide) ?_
    obtain ⟨rfl, rfl, rfl⟩ := zret3 h
    exact zme_i F hx hst h9 hret hlocks dX19_box_26 hr (Nat.zero_le _) (Nat.zero_le _)
noncomputable def fX19_box_1 (N RC RS : Nat) (x0 : Nat) (ids : List (Nat × Nat)) (z : St) : Option (Int32 × St × List (Nat × Nat)) := if ¬ (zgI z 19 19 x0) = (16 : Int32) then (fX19_box_1_15 N RC RS x0 x0 (0 : Int32) ids z) else (fX19_box_1_15 N RC RS x0 x0 (1 : Int32) ids z)
set_option maxHeartbeats 16000000 in
set_option maxRecDepth 100000 in
theorem bX19_box_1_0 (hst : zSt B ids) (h9 : zI9 ids) {N RC RS : Nat} (F : zFx p m c cX19_box 4 s args RX19 D cy B ids A) (hA : ∀ q : Nat, s.heap.size ≤ q → A q) (hret : meth.sig.returnType = (some .int)) (hlocks : meth.locks = false) (hAO : zAO s) (x0 : Nat) (hx0 : (19, x0) ∈ ids) {r : Int32} {z' : St} {I' : List (Nat × Nat)} {z : St} {H : Heap} {locs : List Loc} {ls : Array Slot} (hr : zRep D cy B ids A s.heap z H locs) (hl : lv_has ls 4 [(0, .ref (B 19 x0)), (1, .int (1 : Int32))]) (h : fX19_box_1 N RC RS x0 ids z = some (r, z', I')) : W p l e (rmX19_box_1 RC RS) s m args below meth c H locs 0 0 (MQ below (zQm D cy (some (.int r)) z' I' B ids A) args s RC RS A) (F0 m 0 ls []) := by
  unfold fX19_box_1 at h
  have hx := zExt_rf B ids
  refine lv_aload_n F.1 F.2.1 dX19_box_0 rfl (lv_at hl 0 rfl) ?_
  refine lv_aload_n F.1 F.2.1 dX19_box_1 rfl (lv_at hl 0 rfl) ?_
  refine gf19_831 F hx0 hr dX19_box_2 ?_
  refine lv_bipush (v := (16 : Int32)) F.1 F.2.1 dX19_box_5 (by decide) ?_
  refine lv_icmp_ne (tgt := 14) F.1 F.2.1 dX19_box_7 (by decide) (fun c1 => ?_) (fun c1 => ?_)
  · replace h := zi_t c1 h
    refine lv_iconst (v := (0 : Int32)) F.1 F.2.1 dX19_box_14 (by decide) ?_
    exact bX19_box_1_15 hst h9 F hA hret hlocks hAO x0 x0 (0 : Int32) hx0 hx0 hr (lv_sub hl [0, 1] rfl) h
  · replace h := zi_f (fun q => q c1) h
    refine lv_iconst (v := (1 : Int32)) F.1 F.2.1 dX19_box_10 (by decide) ?_
    refine lv_goto (tgt := 15) F.1 F.2.1 dX19_box_11 (by decide) ?_
    exact bX19_box_1_15 hst h9 F hA hret hlocks hAO x0 x0 (1 : Int32) hx0 hx0 hr (lv_sub hl [0, 1] rfl) h
end SX19_box_1
set_option maxRecDepth 100000 in
theorem okX19_box_1 (l : Launch) (D : va_G) (cy : Nat → ClassId) (B : Nat → Nat → Nat) (ids : List (Nat × Nat)) (hst : zSt B ids) (h9 : zI9 ids) (N RC RS : Nat) (x0 : Nat) (hx0 : (19, x0) ∈ ids) {z : St} {r : Int32} {z' : St} {I' : List (Nat × Nat)} (hW : zWf ids z) (h : fX19_box_1 N RC RS x0 ids z = some (r, z', I')) : zMm l yX19_box (zws yX19_box cX19_box 4 (some .int)) (rmX19_box_1 RC RS) D cy B ids [.ref (B 19 x0), .int (1 : Int32)] (some (.int r)) z z' I' :=
  zMm_of hst hW (by decide +kernel) (Nat.le_of_ble_eq_true rfl) (fun p e s m args below meth c A ls F hA hret hlocks hAO hr hl => bX19_box_1_0 hst h9 F hA hret hlocks hAO x0 hx0 hr hl h)
