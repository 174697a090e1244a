abbrev rmX19_net (RC RS : Nat) : Room := { frames := 2, cells := RC, slots := RS, locals := 32 }
theorem hdX19_net : yX19_net.cls ≠ "java/lang/invoke/MethodHandle" ∧ yX19_net.cls ≠ "java/lang/invoke/VarHandle" ∧ (parseMethodDescriptor yX19_net.desc).map (fun d => d.parameters.length) = some 2 := by decide +kernel
theorem hroX19_net_X19_fails (RC RS : Nat) : rmX19_fails.frames + 1 ≤ (rmX19_net RC RS).frames ∧ 8 + (3 + 11) + rmX19_fails.locals ≤ (rmX19_net RC RS).locals := ⟨Nat.le_of_ble_eq_true rfl, Nat.le_of_ble_eq_true rfl⟩
theorem hroX19_net_X19_stir (RC RS : Nat) : rmX19_stir.frames + 1 ≤ (rmX19_net RC RS).frames ∧ 8 + (1 + 11) + rmX19_stir.locals ≤ (rmX19_net RC RS).locals := ⟨Nat.le_of_ble_eq_true rfl, Nat.le_of_ble_eq_true rfl⟩
section SX19_net
variable {p : Program} {l : Launch} {e : Env} {s : State} {m : MethodId} {args : Array Value} {below : List Frame} {meth : Method} {c : Code} {D : va_G} {cy : Nat → ClassId} {B : Nat → Nat → Nat} {ids : List (Nat × Nat)} {A : Nat → Prop}
noncomputable def fX19_net_44 (N RC RS : Nat) (x0 : Nat) (x1 : Int32) (x2 : Int32) (s0 : Nat) (s1 : Int32) (s2 : Int32) (ids : List (Nat × Nat)) (z : St) : Option (Int32 × St × List (Nat × Nat)) := zc (fX19_fails N s0 s1 s2 z) fun r6 z7 => if r6 = 0 then (zl (Int32.toNatClampNeg (zgI z7 19 21 x0)) fun n1 => zqc (zfr (znmX16 n1) ids ∧ 3 ≤ RC ∧ 82 ≤ RS) <| zl (zmg (znmX16 n1) (zmwX16 n1 ) z7) fun z11 => zl (ids ++ znmX16 n1) fun I1 => zl (zsI z11 16 0 n1 (zgI z11 19 21 x0)) fun z12 => zl (zsI z12 16 1 n1 x1) fun z13 => zl (zsI z13 16 2 n1 x2) fun z14 => zk (zgI z14 19 21 x0) 24 <| zl (zsQ z14 187 x0 (Int32.toNatClampNeg (zgI z14 19 21 x0)) (some n1)) fun z16 => zl (zsI z16 19 21 x0 ((zgI z16 19 21 x0) + (1 : Int32))) fun z17 => zc (fX19_stir N x0 z17) fun _ z19 => some ((zgI z19 16 0 n1), z19, I1)) else (some ((0 : Int32), z7, ids))
set_option maxHeartbeats 16000000 in
set_option maxRecDepth 100000 in
theorem bX19_net_44 (hst : zSt B ids) (h9 : zI9 ids) {N RC RS : Nat} (F : zFx p m c cX19_net 4 s args RX19 D cy B ids A) (hA : ∀ q : Nat, s.heap.size ≤ q → A q) (hret : meth.sig.returnType = (some .int)) (hlocks : meth.locks = false) (hAO : zAO s) (x0 : Nat) (x1 : Int32) (x2 : Int32) (s0 : Nat) (s1 : Int32) (s2 : Int32) (hx0 : (19, x0) ∈ ids) (hs0 : (19, s0) ∈ ids) {r : Int32} {z' : St} {I' : List (Nat × Nat)} {z : St} {H : Heap} {locs : List Loc} {ls : Array Slot} (hr : zRep D cy B ids A s.heap z H locs) (hl : lv_has ls 4 [(0, .ref (B 19 x0)), (1, .int x1), (2, .int x2)]) (h : fX19_net_44 N RC RS x0 x1 x2 s0 s1 s2 ids z = some (r, z', I')) : W p l e (rmX19_net RC RS) s m args below meth c H locs 0 0 (MQ below (zQm D cy (some (.int r)) z' I' B ids A) args s RC RS A) (F0 m 44 ls [.int s2, .int s1, .ref (B 19 s0)]) := by
  unfold fX19_net_44 at h
  have hx := zExt_rf B ids
  replace h := zc_some h
  obtain ⟨r6, z7, hc8, h⟩ := h
  refine zr_calli (zrun_V (As := [.int s1, .int s2]) (rest := []) zq_2402 zq_2404 zs_X19_fails zq_2405 zq_4 hdX19_fails (by decide) (T := TX19) (N := 32) rfl (okX19_fails l D cy B ids hst N s0 hs0 s1  s2  hr.2.2 hc8) F hr hs0 hl.1 rfl (by decide) dX19_net_44 rfl rfl (hroX19_net_X19_fails RC RS) ⟨Nat.zero_le _, Nat.zero_le _⟩) F hA hr (fun H locs hw9 hr => ?_)
  clear hc8
  refine lv_if_eq (tgt := 52) F.1 F.2.1 dX19_net_47 (by decide) (fun c10 => ?_) (fun c10 => ?_)
  · replace h := zi_t c10 h
    obtain ⟨n1, en1⟩ : ∃ y : Nat, y = Int32.toNatClampNeg (zgI z7 19 21 x0) := ⟨_, rfl⟩
    replace h := zl_sub en1 h
    replace h := zqc_some h
    obtain ⟨⟨hfr1, hca1, hcb1⟩, h⟩ := h
    refine zc_new (k := 16) (T := TX16) (N := 10) (fs := [.int 0, .int 0, .int 0, .int 0, .null, .int 0, .null, .int 0, .int 0, .int 0]) tyX16 tyX16_ok rfl inX16 zq_1883 zq_2406 zq_23 (zFx_k F hA) (zRC_of F hr) (by decide +kernel) (Nat.le_trans (Nat.le_of_ble_eq_true rfl) hca1) (Nat.le_trans (Nat.le_of_ble_eq_true rfl) hcb1) dX19_net_52 (fun q H hq => ?_)
    have hr := zRC_rep hq
    refine lv_dup F.1 F.2.1 dX19_net_55 rfl ?_
    refine zK_callN (cs := []) (As := []) (rest := [.ref q]) hAO zn_2407 rfl zq_2408 zq_2409 zq_23 hdX16_init (okX16_init l D cy q ) (zFx_k F hA) hq hl.1 rfl (Nat.le_of_ble_eq_true rfl) dX19_net_56 ⟨Nat.le_of_ble_eq_true rfl, Nat.le_of_ble_eq_true rfl⟩ ⟨Nat.le_trans (Nat.le_of_ble_eq_true rfl) hca1, Nat.le_trans (Nat.le_of_ble_eq_true rfl) hcb1⟩ (fun H locs cs1 hp hq => ?_)
    obtain ⟨w1, w2, rfl⟩ := hp
    obtain ⟨B1, hB1, eo1, hst, hD1, h9, hr⟩ := zmkX16 hst h9 n1  hfr1 hq
    clear hq
    generalize eI1 : ids ++ znmX16 n1 = I1 at hst hD1 h9 hr
    have F0 := F
    have F := zFx_nx F hst hD1
    have hi1 : ∀ k o, (k, o) ∈ ids → (k, o) ∈ I1 := fun k o h => eI1 ▸ List.mem_append_left _ h
    have hn1 : (16, n1) ∈ I1 := eI1 ▸ List.mem_append_right _ (List.mem_of_getElem? (l := znmX16 n1) (i := 0) rfl)
    have hx := zExt_nx hx hB1 hi1
    obtain ⟨z11, ez11⟩ : ∃ y, y = zmg (znmX16 n1) (zmwX16 n1 ) z7 := ⟨_, rfl⟩
    rw [← ez11] at hr
    replace h := zl_sub ez11 h
    clear ez11
    replace h := zl_sub eI1.symm h
    have ha1_0 : (19, x0) ∈ I1 := hi1 _ _ hx0
    replace hl : lv_has ls 4 [(0, .ref (B1 19 x0)), (1, .int x1), (2, .int x2)] := by
            rw [hB1 19 x0 hx0]; exact hl
    subst eo1
    refine lv_astore_n (lv' := [(3, .ref (B1 16 n1)), (0, .ref (B1 19 x0)), (1, .int x1), (2, .int x2)]) F.1 F.2.1 dX19_net_59 rfl hl (by decide) rfl (fun ls hl => ?_)
    refine lv_aload_n F.1 F.2.1 dX19_net_60 rfl (lv_at hl 0 rfl) ?_
    refine lv_aload_n F.1 F.2.1 dX19_net_61 rfl (lv_at hl 1 rfl) ?_
    refine gf19_270 F ha1_0 hr dX19_net_62 ?_
    refine pf19_181 F hn1 hr dX19_net_65 (zgI z11 19 21 x0) (fun H locs z12 ez12 hr => ?_)
    replace h := zl_sub ez12 h
    clear ez12
    refine lv_aload_n F.1 F.2.1 dX19_net_68 rfl (lv_at hl 0 rfl) ?_
    refine lv_iload_n F.1 F.2.1 dX19_net_69 rfl (lv_at hl 2 rfl) ?_
    refine pf19_191 F hn1 hr dX19_net_70 x1 (fun H locs z13 ez13 hr => ?_)
    replace h := zl_sub ez13 h
    clear ez13
    refine lv_aload_n F.1 F.2.1 dX19_net_73 rfl (lv_at hl 0 rfl) ?_
    refine lv_iload_n F.1 F.2.1 dX19_net_74 rfl (lv_at hl 3 rfl) ?_
    refine pf19_174 F hn1 hr dX19_net_75 x2 (fun H locs z14 ez14 hr => ?_)
    replace h := zl_sub ez14 h
    clear ez14
    refine lv_aload_n F.1 F.2.1 dX19_net_78 rfl (lv_at hl 1 rfl) ?_
    refine gf19_120 F ha1_0 hr dX19_net_79 ?_
    refine lv_aload_n F.1 F.2.1 dX19_net_82 rfl (lv_at hl 1 rfl) ?_
    refine gf19_270 F ha1_0 hr dX19_net_83 ?_
    refine lv_aload_n F.1 F.2.1 dX19_net_86 rfl (lv_at hl 0 rfl) ?_
    replace h := zk_some h
    obtain ⟨c15, h⟩ := h
    refine zr_aast (k := 187) (v := (some n1)) (T := TX16) (N := 10) (by decide) rfl (by decide) rfl rfl F (zal_a F ha1_0 (j := 20) rfl) hr dX19_net_87 (by rw [zlen_d (by decide)]; exact c15) (zal_s hn1) (fun H locs z16 ez16 hr => ?_)
    replace h := zl_sub ez16 h
    clear ez16
    refine lv_aload_n F.1 F.2.1 dX19_net_88 rfl (lv_at hl 1 rfl) ?_
    refine lv_dup F.1 F.2.1 dX19_net_89 rfl ?_
    refine gf19_270 F ha1_0 hr dX19_net_90 ?_
    refine lv_iconst (v := (1 : Int32)) F.1 F.2.1 dX19_net_93 (by decide) ?_
    refine lv_iadd F.1 F.2.1 dX19_net_94 ?_
    refine pf19_270 F ha1_0 hr dX19_net_95 ((zgI z16 19 21 x0) + (1 : Int32)) (fun H locs z17 ez17 hr => ?_)
    replace h := zl_sub ez17 h
    clear ez17
    refine lv_aload_n F.1 F.2.1 dX19_net_98 rfl (lv_at hl 1 rfl) ?_
    replace h := zc_some h
    obtain ⟨r18, z19, hc20, h⟩ := h
    refine zr_callv (zrun_V (As := []) (rest := []) zq_2394 zq_2396 zs_X19_stir zq_2397 zq_4 hdX19_stir (by decide) (T := TX19) (N := 32) rfl (okX19_stir l D cy B1 I1 hst N x0 ha1_0 hr.2.2 hc20) F hr ha1_0 hl.1 rfl (by decide) dX19_net_99 rfl rfl (hroX19_net_X19_stir RC RS) ⟨Nat.le_trans (Nat.le_of_ble_eq_true rfl) hca1, Nat.le_trans (Nat.le_of_ble_eq_true rfl) hcb1⟩) F hA hr (fun H locs hw21 hr => ?_)
    clear hc20
    refine lv_aload_n F.1 F.2.1 dX19_net_102 rfl (lv_at hl 0 rfl) ?_
    refine gf19_181 F hn1 hr dX19_net_103 ?_
    obtain ⟨rfl, rfl, rfl⟩ := zret3 h
    exact zme_i F hx hst h9 hret hlocks dX19_net_106 hr (Nat.le_trans (Nat.le_of_ble_eq_true rfl) hca1) (Nat.le_trans (Nat.le_of_ble_eq_true rfl) hcb1)
  · replace h := zi_f c10 h
    refine lv_iconst (v := (0 : Int32)) F.1 F.2.1 dX19_net_50 (by decide) ?_
    obtain ⟨rfl, rfl, rfl⟩ := zret3 h
    exact zme_i F hx hst h9 hret hlocks dX19_net_51 hr (Nat.zero_le _) (Nat.zero_le _)
noncomputable def fX19_net_30 (N RC RS : Nat) (x0 : Nat) (x1 : Int32) (x2 : Int32) (s0 : Nat) (s1 : Int32) (ids : List (Nat × Nat)) (z : St) : Option (Int32 × St × List (Nat × Nat)) := if ¬ (zgI z 19 21 x0) = (24 : Int32) then (fX19_net_44 N RC RS x0 x1 x2 s0 s1 (0 : Int32) ids z) else (fX19_net_44 N RC RS x0 x1 x2 s0 s1 (1 : Int32) ids z)
set_option maxHeartbeats 16000000 in
set_option maxRecDepth 100000 in
theorem bX19_net_30 (hst : zSt B ids) (h9 : zI9 ids) {N RC RS : Nat} (F : zFx p m c cX19_net 4 s args RX19 D cy B ids A) (hA : ∀ q : Nat, s.heap.size ≤ q → A q) (hret : meth.sig.returnType = (some .int)) (hlocks : meth.locks = false) (hAO : zAO s) (x0 : Nat) (x1 : Int32) (x2 : Int32) (s0 : Nat) (s1 : Int32) (hx0 : (19, x0) ∈ ids) (hs0 : (19, s0) ∈ ids) {r : Int32} {z' : St} {I' : List (Nat × Nat)} {z : St} {H : Heap} {locs : List Loc} {ls : Array Slot} (hr : zRep D cy B ids A s.heap z H locs) (hl : lv_has ls 4 [(0, .ref (B 19 x0)), (1, .int x1), (2, .int x2)]) (h : fX19_net_30 N RC RS x0 x1 x2 s0 s1 ids z = some (r, z', I')) : W p l e (rmX19_net RC RS) s m args below meth c H locs 0 0 (MQ below (zQm D cy (some (.int r)) z' I' B ids A) args s RC RS A) (F0 m 30 ls [.int s1, .ref (B 19 s0)]) := by
  unfold fX19_net_30 at h
  have hx := zExt_rf B ids
  refine lv_aload_n F.1 F.2.1 dX19_net_30 rfl (lv_at hl 0 rfl) ?_
  refine gf19_270 F hx0 hr dX19_net_31 ?_
  refine lv_bipush (v := (24 : Int32)) F.1 F.2.1 dX19_net_34 (by decide) ?_
  refine lv_icmp_ne (tgt := 43) F.1 F.2.1 dX19_net_36 (by decide) (fun c5 => ?_) (fun c5 => ?_)
  · replace h := zi_t c5 h
    refine lv_iconst (v := (0 : Int32)) F.1 F.2.1 dX19_net_43 (by decide) ?_
    exact bX19_net_44 hst h9 F hA hret hlocks hAO x0 x1 x2 s0 s1 (0 : Int32) hx0 hs0 hr (lv_sub hl [0, 1, 2] rfl) h
  · replace h := zi_f (fun q => q c5) h
    refine lv_iconst (v := (1 : Int32)) F.1 F.2.1 dX19_net_39 (by decide) ?_
    refine lv_goto (tgt := 44) F.1 F.2.1 dX19_net_40 (by decide) ?_
    exact bX19_net_44 hst h9 F hA hret hlocks hAO x0 x1 x2 s0 s1 (1 : Int32) hx0 hs0 hr (lv_sub hl [0, 1, 2] rfl) h
noncomputable def fX19_net (N RC RS : Nat) (x0 : Nat) (x1 : Int32) (x2 : Int32) (ids : List (Nat × Nat)) (z : St) : Option (Int32 × St × List (Nat × Nat)) := if x1 < (100 : Int32) then (fX19_net_30 N RC RS x0 x1 x2 x0 (1 : Int32) ids z) else (if (1500 : Int32) < x1 then (fX19_net_30 N RC RS x0 x1 x2 x0 (1 : Int32) ids z) else (if x2 < (1 : Int32) then (fX19_net_30 N RC RS x0 x1 x2 x0 (1 : Int32) ids z) else (if x2 ≤ (50 : Int32) then (fX19_net_30 N RC RS x0 x1 x2 x0 (0 : Int32) ids z) else (fX19_net_30 N RC RS x0 x1 x2 x0 (1 : Int32) ids z))))
set_option maxHeartbeats 16000000 in
set_option maxRecDepth 100000 in
theorem bX19_net_0 (hst : zSt B ids) (h9 : zI9 ids) {N RC RS : Nat} (F : zFx p m c cX19_net 4 s args RX19 D cy B ids A) (hA : ∀ q : Nat, s.heap.size ≤ q → A q) (hret : meth.sig.returnType = (some .int)) (hlocks : meth.locks = false) (hAO : zAO s) (x0 : Nat) (x1 : Int32) (x2 : Int32) (hx0 : (19, x0) ∈ ids) {r : Int32} {z' : St} {I' : List (Nat × Nat)} {z : St} {H : Heap} {locs : List Loc} {ls : Array Slot} (hr : zRep D cy B ids A s.heap z H locs) (hl : lv_has ls 4 [(0, .ref (B 19 x0)), (1, .int x1), (2, .int x2)]) (h : fX19_net N RC RS x0 x1 x2 ids z = some (r, z', I')) : W p l e (rmX19_net RC RS) s m args below meth c H locs 0 0 (MQ below (zQm D cy (some (.int r)) z' I' B ids A) args s RC RS A) (F0 m 0 ls []) := by
  unfold fX19_net at h
  have hx := zExt_rf B ids
  refine lv_aload_n F.1 F.2.1 dX19_net_0 rfl (lv_at hl 0 rfl) ?_
  refine lv_iload_n F.1 F.2.1 dX19_net_1 rfl (lv_at hl 1 rfl) ?_
  refine lv_bipush (v := (100 : Int32)) F.1 F.2.1 dX19_net_2 (by decide) ?_
  refine lv_icmp_lt (tgt := 25) F.1 F.2.1 dX19_net_4 (by decide) (fun c1 => ?_) (fun c1 => ?_)
  · replace h := zi_t c1 h
    refine lv_iconst (v := (1 : Int32)) F.1 F.2.1 dX19_net_25 (by decide) ?_
    refine lv_goto (tgt := 30) F.1 F.2.1 dX19_net_26 (by decide) ?_
    exact bX19_net_30 hst h9 F hA hret hlocks hAO x0 x1 x2 x0 (1 : Int32) hx0 hx0 hr (lv_sub hl [0, 1, 2] rfl) h
  · replace h := zi_f c1 h
    refine lv_iload_n F.1 F.2.1 dX19_net_7 rfl (lv_at hl 1 rfl) ?_
    refine lv_sipush (v := (1500 : Int32)) F.1 F.2.1 dX19_net_8 (by decide) ?_
    refine lv_icmp_gt (tgt := 25) F.1 F.2.1 dX19_net_11 (by decide) (fun c2 => ?_) (fun c2 => ?_)
    · replace h := zi_t c2 h
      refine lv_iconst (v := (1 : Int32)) F.1 F.2.1 dX19_net_25 (by decide) ?_
      refine lv_goto (tgt := 30) F.1 F.2.1 dX19_net_26 (by decide) ?_
      exact bX19_net_30 hst h9 F hA hret hlocks hAO x0 x1 x2 x0 (1 : Int32) hx0 hx0 hr (lv_sub hl [0, 1, 2] rfl) h
    · replace h := zi_f c2 h
      refine lv_iload_n F.1 F.2.1 dX19_net_14 rfl (lv_at hl 2 rfl) ?_
      refine lv_iconst (v := (1 : Int32)) F.1 F.2.1 dX19_net_15 (by decide) ?_
      refine lv_icmp_lt (tgt := 25) F.1 F.2.1 dX19_net_16 (by decide) (fun c3 => ?_) (fun c3 => ?_)
      · replace h := zi_t c3 h
        refine lv_iconst (v := (1 : Int32)) F.1 F.2.1 dX19_net_25 (by decide) ?_
        refine lv_goto (tgt := 30) F.1 F.2.1 dX19_net_26 (by decide) ?_
        exact bX19_net_30 hst h9 F hA hret hlocks hAO x0 x1 x2 x0 (1 : Int32) hx0 hx0 hr (lv_sub hl [0, 1, 2] rfl) h
      · replace h := zi_f c3 h
        refine lv_iload_n F.1 F.2.1 dX19_net_19 rfl (lv_at hl 2 rfl) ?_
        refine lv_bipush (v := (50 : Int32)) F.1 F.2.1 dX19_net_20 (by decide) ?_
        refine lv_icmp_le (tgt := 29) F.1 F.2.1 dX19_net_22 (by decide) (fun c4 => ?_) (fun c4 => ?_)
        · replace h := zi_t c4 h
          refine lv_iconst (v := (0 : Int32)) F.1 F.2.1 dX19_net_29 (by decide) ?_
          exact bX19_net_30 hst h9 F hA hret hlocks hAO x0 x1 x2 x0 (0 : Int32) hx0 hx0 hr (lv_sub hl [0, 1, 2] rfl) h
        · replace h := zi_f c4 h
          refine lv_iconst (v := (1 : Int32)) F.1 F.2.1 dX19_net_25 (by decide) ?_
          refine lv_goto (tgt := 30) F.1 F.2.1 dX19_net_26 (by decide) ?_
          exact bX19_net_30 hst h9 F hA hret hlocks hAO x0 x1 x2 x0 (1 : Int32) hx0 hx0 hr (lv_sub hl [0, 1, 2] rfl) h
end SX19_net
set_option maxRecDepth 100000 in
theorem okX19_net (l : Launch) (D : va_G) (cy : Nat → ClassId) (B : Nat → Nat → Nat) (ids : List (Nat × Nat)) (hst : zSt B ids) (h9 : zI9 ids) (N RC RS : Nat) (x0 : Nat) (hx0 : (19, x0) ∈ ids) (x1 : Int32) (x2 : Int32) {z : St} {r : Int32} {z' : St} {I' : List (Nat × Nat)} (hW : zWf ids z) (h : fX19_net N RC RS x0 x1 x2 ids z = some (r, z', I')) : zMm l yX19_net (zws yX19_net cX19_net 4 (some .int)) (rmX19_net RC RS) D cy B ids [.ref (B 19 x0), .int x1, .int x2] (some (.int r)) z z' I' :=
  zMm_of hst hW (by decide +kernel) (Nat.le_of_ble_eq_true rfl) (fun p e s m args below meth c A ls F hA hret hlocks hAO hr hl => bX19_net_0 hst h9 F hA hret hlocks hAO x0 x1 x2 hx0 hr hl h)
abbrev rmX19_join (RC RS : Nat) : Room := { frames := 2, cells := RC, slots := RS, locals := 32 }
theorem hdX19_join : yX19_join.cls ≠ "java/lang/invoke/MethodHandle" ∧ yX19_join.cls ≠ "java/lang/invoke/VarHandle" ∧ (parseMethodDescriptor yX19_join.desc).map (fun d => d.parameters.length) = some 2 := by decide +kernel
theorem hroX19_join_X18_address (RC RS : Nat) : rmX18_address.frames + 1 ≤ (rmX19_join RC RS).frames ∧ 8 + (1 + 11) + rmX18_address.locals ≤ (rmX19_join RC RS).locals := ⟨Nat.le_of_ble_eq_true rfl, Nat.le_of_ble_eq_true rfl⟩
theorem hroX19_join_X19_fails (RC RS : Nat) : rmX19_fails.frames + 1 ≤ (rmX19_join RC RS).frames ∧ 8 + (3 + 11) + rmX19_fails.locals ≤ (rmX19_join RC RS).locals := ⟨Nat.le_of_ble_eq_true rfl, Nat.le_of_ble_eq_true rfl⟩
theorem hroX19_join_X19_isBox (RC RS : Nat) : rmX19_isBox.frames + 1 ≤ (rmX19_join RC RS).frames ∧ 8 + (2 + 11) + rmX19_isBox.locals ≤ (rmX19_join RC RS).locals := ⟨Nat.le_of_ble_eq_true rfl, Nat.le_of_ble_eq_true rfl⟩
theorem hroX19_join_X19_isNet (RC RS : Nat) : rmX19_isNet.frames + 1 ≤ (rmX19_join RC RS).frames ∧ 8 + (2 + 11) + rmX19_isNet.locals ≤ (rmX19_join RC RS).locals := ⟨Nat.le_of_ble_eq_true rfl, Nat.le_of_ble_eq_true rfl⟩
theorem hroX19_join_X19_stationOf (RC RS : Nat) : rmX19_stationOf.frames + 1 ≤ (rmX19_join RC RS).frames ∧ 8 + (3 + 11) + rmX19_stationOf.locals ≤ (rmX19_join RC RS).locals := ⟨Nat.le_of_ble_eq_true rfl, Nat.le_of_ble_eq_true rfl⟩
theorem hroX19_join_X19_stir (RC RS : Nat) : rmX19_stir.frames + 1 ≤ (rmX19_join RC RS).frames ∧ 8 + (1 + 11) + rmX19_stir.locals ≤ (rmX19_join RC RS).locals := ⟨Nat.le_of_ble_eq_true rfl, Nat.le_of_ble_eq_true rfl⟩
section SX19_join
variable {p : Program} {l : Launch} {e : Env} {s : State} {m : MethodId} {args : Array Value} {below : List Frame} {meth : Method} {c : Code} {D : va_G} {cy : Nat → ClassId} {B : Nat → Nat → Nat} {ids : List (Nat × Nat)} {A : Nat → Prop}
noncomputable def fX19_join_93 (N RC RS : Nat) (x0 : Nat) (x3 : Nat) (x4 : Option Nat) (s0 : Nat) (s1 : Int32) (s2 : Int32) (ids : List (Nat × Nat)) (z : St) : Option (Int32 × St × List (Nat × Nat)) := zc (fX19_fails N s0 s1 s2 z) fun r38 z39 => if r38 = 0 then (zd x4 fun a43 => zl (8 * Int32.toNatClampNeg (zgI z39 16 0 a43) + Int32.toNatClampNeg (zgI z39 16 5 a43)) fun n1 => zqc (zfr (znmX18 n1) ids ∧ 6 ≤ RC ∧ 71 ≤ RS) <| zl (zmg (znmX18 n1) (zmwX18 n1 ) z39) fun z44 => zl (ids ++ znmX18 n1) fun I1 => zl (zsR z44 18 0 n1 (some x3)) fun z45 => zl (zsI z45 18 1 n1 (zgI z45 12 3 x3)) fun z46 => zl (zsR z46 18 2 n1 (some a43)) fun z47 => zl (zsI z47 18 3 n1 (zgI z47 16 5 a43)) fun z48 => zl (zsA z48 167 n1 (Int32.toNatClampNeg (0 : Int32)) (-1000000 : Int32)) fun z50 => zl (zsA z50 167 n1 (Int32.toNatClampNeg (1 : Int32)) (-1000000 : Int32)) fun z52 => zl (zsA z52 167 n1 (Int32.toNatClampNeg (2 : Int32)) (-1000000 : Int32)) fun z54 => zl (zsA z54 167 n1 (Int32.toNatClampNeg (3 : Int32)) (-1000000 : Int32)) fun z56 => zl (zsA z56 167 n1 (Int32.toNatClampNeg (4 : Int32)) (-1000000 : Int32)) fun z58 => zl (zsA z58 167 n1 (Int32.toNatClampNeg (5 : Int32)) (-1000000 : Int32)) fun z60 => zl (zsA z60 167 n1 (Int32.toNatClampNeg (6 : Int32)) (-1000000 : Int32)) fun z62 => zl (zsA z62 167 n1 (Int32.toNatClampNeg (7 : Int32)) (-1000000 : Int32)) fun z64 => zk (zgI z64 12 3 x3) 6 <| zl (zsQ z64 147 x3 (Int32.toNatClampNeg (zgI z64 12 3 x3)) (some n1)) fun z66 => zl (zsI z66 12 3 x3 ((zgI z66 12 3 x3) + (1 : Int32))) fun z67 => zk (zgI z67 16 5 a43) 8 <| zl (zsQ z67 164 a43 (Int32.toNatClampNeg (zgI z67 16 5 a43)) (some n1)) fun z69 => zl (zsI z69 16 5 a43 ((zgI z69 16 5 a43) + (1 : Int32))) fun z70 => zl (zsI z70 12 23 x3 (1 : Int32)) fun z71 => zl (zsI z71 12 24 x3 (1 : Int32)) fun z72 => zc (fX19_stir N x0 z72) fun _ z74 => zc (fX18_address N n1 z74) fun r77 z78 => some (r77, z78, I1)) else (some ((0 : Int32), z39, ids))
set_option maxHeartbeats 16000000 in
set_option maxRecDepth 100000 in
theorem bX19_join_93 (hst : zSt B ids) (h9 : zI9 ids) {N RC RS : Nat} (F : zFx p m c cX19_join 7 s args RX19 D cy B ids A) (hA : ∀ q : Nat, s.heap.size ≤ q → A q) (hret : meth.sig.returnType = (some .int)) (hlocks : meth.locks = false) (hAO : zAO s) (x0 : Nat) (x3 : Nat) (x4 : Option Nat) (s0 : Nat) (s1 : Int32) (s2 : Int32) (hx0 : (19, x0) ∈ ids) (hx3 : (12, x3) ∈ ids) (hx4 : ∀ t, x4 = some t → (16, t) ∈ ids) (hs0 : (19, s0) ∈ ids) {r : Int32} {z' : St} {I' : List (Nat × Nat)} {z : St} {H : Heap} {locs : List Loc} {ls : Array Slot} (hr : zRep D cy B ids A s.heap z H locs) (hl : lv_has ls 7 [(0, .ref (B 19 x0)), (3, .ref (B 12 x3)), (4, va_rf (Option.map (B 16) x4))]) (h : fX19_join_93 N RC RS x0 x3 x4 s0 s1 s2 ids z = some (r, z', I')) : W p l e (rmX19_join RC RS) s m args below meth c H locs 0 0 (MQ below (zQm D cy (some (.int r)) z' I' B ids A) args s RC RS A) (F0 m 93 ls [.int s2, .int s1, .ref (B 19 s0)]) := by
  unfold fX19_join_93 at h
  have hx := zExt_rf B ids
  replace h := zc_some h
  obtain ⟨r38, z39, hc40, h⟩ := h
  refine zr_calli (zrun_V (As := [.int s1, .int s2]) (rest := []) zq_2402 zq_2404 zs_X19_fails zq_2405 zq_4 hdX19_fails (by decide) (T := TX19) (N := 32) rfl (okX19_fails l D cy B ids hst N s0 hs0 s1  s2  hr.2.2 hc40) F hr hs0 hl.1 rfl (by decide) dX19_join_93 rfl rfl (hroX19_join_X19_fails RC RS) ⟨Nat.zero_le _, Nat.zero_le _⟩) F hA hr (fun H locs hw41 hr => ?_)
  clear hc40
  refine lv_if_eq (tgt := 101) F.1 F.2.1 dX19_join_96 (by decide) (fun c42 => ?_) (fun c42 => ?_)
  · replace h := zi_t c42 h
    replace h := zd_some h
    obtain ⟨a43, rfl, h⟩ := h
    obtain ⟨n1, en1⟩ : ∃ y : Nat, y = 8 * Int32.toNatClampNeg (zgI z39 16 0 a43) + Int32.toNatClampNeg (zgI z39 16 5 a43) := ⟨_, rfl⟩
    replace h := zl_sub en1 h
    replace h := zqc_some h
    obtain ⟨⟨hfr1, hca1, hcb1⟩, h⟩ := h
    refine zc_new (k := 18) (T := TX18) (N := 13) (fs := [.null, .int 0, .null, .int 0, .int 0, .int 0, .null, .null, .null, .int 0, .null, .null, .int 0]) tyX18 tyX18_ok rfl inX18 zq_2462 zq_2463 zq_25 (zFx_k F hA) (zRC_of F hr) (by decide +kernel) (Nat.le_trans (Nat.le_of_ble_eq_true rfl) hca1) (Nat.le_trans (Nat.le_of_ble_eq_true rfl) hcb1) dX19_join_101 (fun q H hq => ?_)
    have hr := zRC_rep hq
    refine lv_dup F.1 F.2.1 dX19_join_104 rfl ?_
    refine zK_callN (cs := []) (As := []) (rest := [.ref q]) hAO zn_2464 rfl zq_2465 zq_2466 zq_25 hdX18_init (okX18_init l D cy q ) (zFx_k F hA) hq hl.1 rfl (Nat.le_of_ble_eq_true rfl) dX19_join_105 ⟨Nat.le_of_ble_eq_true rfl, Nat.le_of_ble_eq_true rfl⟩ ⟨Nat.le_trans (Nat.le_of_ble_eq_true rfl) hca1, Nat.le_trans (Nat.le_of_ble_eq_true rfl) hcb1⟩ (fun H locs cs1 hp hq => ?_)
    obtain ⟨w1, w2, w3, w4, w5, rfl⟩ := hp
    obtain ⟨B1, hB1, eo1, hst, hD1, h9, hr⟩ := zmkX18 hst h9 n1  hfr1 hq
    clear hq
    generalize eI1 : ids ++ znmX18 n1 = I1 at hst hD1 h9 hr
    have F0 := F
    have F := zFx_nx F hst hD1
    have hi1 : ∀ k o, (k, o) ∈ ids → (k, o) ∈ I1 := fun k o h => eI1 ▸ List.mem_append_left _ h
    have hn1 : (18, n1) ∈ I1 := eI1 ▸ List.mem_append_right _ (List.mem_of_getElem? (l := znmX18 n1) (i := 0) rfl)
    have hx := zExt_nx hx hB1 hi1
    obtain ⟨z44, ez44⟩ : ∃ y, y = zmg (znmX18 n1) (zmwX18 n1 ) z39 := ⟨_, rfl⟩
    rw [← ez44] at hr
    replace h := zl_sub ez44 h
    clear ez44
    replace h := zl_sub eI1.symm h
    have ha1_0 : (19, x0) ∈ I1 := hi1 _ _ hx0
    have ha1_1 : (12, x3) ∈ I1 := hi1 _ _ hx3
    have ha1_2 : (16, a43) ∈ I1 := hi1 _ _ (hx4 _ rfl)
    replace hl : lv_has ls 7 [(0, .ref (B1 19 x0)), (3, .ref (B1 12 x3)), (4, .ref (B1 16 a43))] := by
            rw [hB1 19 x0 hx0, hB1 12 x3 hx3, hB1 16 a43 (hx4 _ rfl)]; exact hl
    subst eo1
    refine lv_astore (lv' := [(5, .ref (B1 18 n1)), (0, .ref (B1 19 x0)), (3, .ref (B1 12 x3)), (4, .ref (B1 16 a43))]) F.1 F.2.1 dX19_join_108 hl (by decide) rfl (fun ls hl => ?_)
    refine lv_aload F.1 F.2.1 dX19_join_110 (lv_at hl 0 rfl) ?_
    refine lv_aload_n F.1 F.2.1 dX19_join_112 rfl (lv_at hl 2 rfl) ?_
    refine pf19_197 F hn1 hr dX19_join_113 (some x3) (zal_s ha1_1) (fun H locs z45 ez45 hr => ?_)
    replace h := zl_sub ez45 h
    clear ez45
    refine lv_aload F.1 F.2.1 dX19_join_116 (lv_at hl 0 rfl) ?_
    refine lv_aload_n F.1 F.2.1 dX19_join_118 rfl (lv_at hl 2 rfl) ?_
    refine gf19_273 F ha1_1 hr dX19_join_119 ?_
    refine pf19_380 F hn1 hr dX19_join_122 (zgI z45 12 3 x3) (fun H locs z46 ez46 hr => ?_)
    replace h := zl_sub ez46 h
    clear ez46
    refine lv_aload F.1 F.2.1 dX19_join_125 (lv_at hl 0 rfl) ?_
    refine lv_aload F.1 F.2.1 dX19_join_127 (lv_at hl 3 rfl) ?_
    refine pf19_149 F hn1 hr dX19_join_129 (some a43) (zal_s ha1_2) (fun H locs z47 ez47 hr => ?_)
    replace h := zl_sub ez47 h
    clear ez47
    refine lv_aload F.1 F.2.1 dX19_join_132 (lv_at hl 0 rfl) ?_
    refine lv_aload F.1 F.2.1 dX19_join_134 (lv_at hl 3 rfl) ?_
    refine gf19_292 F ha1_2 hr dX19_join_136 ?_
    refine pf19_184 F hn1 hr dX19_join_139 (zgI z47 16 5 a43) (fun H locs z48 ez48 hr => ?_)
    replace h := zl_sub ez48 h
    clear ez48
    refine lv_iconst (v := (0 : Int32)) F.1 F.2.1 dX19_join_142 (by decide) ?_
    refine lv_istore (lv' := [(6, .int (0 : Int32)), (5, .ref (B1 18 n1)), (0, .ref (B1 19 x0)), (3, .ref (B1 12 x3)), (4, .ref (B1 16 a43))]) F.1 F.2.1 dX19_join_143 hl (by decide) rfl (fun ls hl => ?_)
    refine lv_iload F.1 F.2.1 dX19_join_145 (lv_at hl 0 rfl) ?_
    refine lv_bipush (v := (8 : Int32)) F.1 F.2.1 dX19_join_147 (by decide) ?_
    refine lv_icmp_ge (tgt := 169) F.1 F.2.1 dX19_join_149 (by decide) (fun hc => absurd hc (by decide)) (fun _ => ?_)
    refine lv_aload F.1 F.2.1 dX19_join_152 (lv_at hl 1 rfl) ?_
    refine gf19_207 F hn1 hr dX19_join_154 ?_
    refine lv_iload F.1 F.2.1 dX19_join_157 (lv_at hl 0 rfl) ?_
    refine lv_ldcw (v := (-1000000)) F.1 F.2.1 F.2.2.2.1 (F.2.2.2.2.1 _ zq_2519) dX19_join_159 ?_
    refine zr_iast (k := 167) (by decide) rfl (by decide) F (zal_a F hn1 (j := 6) rfl) hr dX19_join_162 (by unfold vp_in; decide) (fun H locs z50 ez50 hr => ?_)
    replace h := zl_sub ez50 h
    clear ez50
    refine lv_iinc (v := (1 : Int32)) (lv' := [(6, .int (1 : Int32)), (5, .ref (B1 18 n1)), (0, .ref (B1 19 x0)), (3, .ref (B1 12 x3)), (4, .ref (B1 16 a43))]) F.1 F.2.1 dX19_join_163 hl (k := 0) rfl (by decide) (by decide) rfl (fun ls hl => ?_)
    refine lv_goto (tgt := 145) F.1 F.2.1 dX19_join_166 (by decide) ?_
    refine lv_iload F.1 F.2.1 dX19_join_145 (lv_at hl 0 rfl) ?_
    refine lv_bipush (v := (8 : Int32)) F.1 F.2.1 dX19_join_147 (by decide) ?_
    refine lv_icmp_ge (tgt := 169) F.1 F.2.1 dX19_join_149 (by decide) (fun hc => absurd hc (by decide)) (fun _ => ?_)
    refine lv_aload F.1 F.2.1 dX19_join_152 (lv_at hl 1 rfl) ?_
    refine gf19_207 F hn1 hr dX19_join_154 ?_
    refine lv_iload F.1 F.2.1 dX19_join_157 (lv_at hl 0 rfl) ?_
    refine lv_ldcw (v := (-1000000)) F.1 F.2.1 F.2.2.2.1 (F.2.2.2.2.1 _ zq_2519) dX19_join_159 ?_
    refine zr_iast (k := 167) (by decide) rfl (by decide) F (zal_a F hn1 (j := 6) rfl) hr dX19_join_162 (by unfold vp_in; decide) (fun H locs z52 ez52 hr => ?_)
    replace h := zl_sub ez52 h
    clear ez52
    refine lv_iinc (v := (2 : Int32)) (lv' := [(6, .int (2 : Int32)), (5, .ref (B1 18 n1)), (0, .ref (B1 19 x0)), (3, .ref (B1 12 x3)), (4, .ref (B1 16 a43))]) F.1 F.2.1 dX19_join_163 hl (k := 0) rfl (by decide) (by decide) rfl (fun ls hl => ?_)
    refine lv_goto (tgt := 145) F.1 F.2.1 dX19_join_166 (by decide) ?_
    refine lv_iload F.1 F.2.1 dX19_join_145 (lv_at hl 0 rfl) ?_
    refine lv_bipush (v := (8 : Int32)) F.1 F.2.1 dX19_join_147 (by decide) ?_
    refine lv_icmp_ge (tgt := 169) F.1 F.2.1 dX19_join_149 (by decide) (fun hc => absurd hc (by decide)) (fun _ => ?_)
    refine lv_aload F.1 F.2.1 dX19_join_152 (lv_at hl 1 rfl) ?_
    refine gf19_207 F hn1 hr dX19_join_154 ?_
    refine lv_iload F.1 F.2.1 dX19_join_157 (lv_at hl 0 rfl) ?_
    refine lv_ldcw (v := (-1000000)) F.1 F.2.1 F.2.2.2.1 (F.2.2.2.2.1 _ zq_2519) dX19_join_159 ?_
    refine zr_iast (k := 167) (by decide) rfl (by decide) F (zal_a F hn1 (j := 6) rfl) hr dX19_join_162 (by unfold vp_in; decide) (fun H locs z54 ez54 hr => ?_)
    replace h := zl_sub ez54 h
    clear ez54
    refine lv_iinc (v := (3 : Int32)) (lv' := [(6, .int (3 : Int32)), (5, .ref (B1 18 n1)), (0, .ref (B1 19 x0)), (3, .ref (B1 12 x3)), (4, .ref (B1 16 a43))]) F.1 F.2.1 dX19_join_163 hl (k := 0) rfl (by decide) (by decide) rfl (fun ls hl => ?_)
    refine lv_goto (tgt := 145) F.1 F.2.1 dX19_join_166 (by decide) ?_
    refine lv_iload F.1 F.2.1 dX19_join_145 (lv_at hl 0 rfl) ?_
    refine lv_bipush (v := (8 : Int32)) F.1 F.2.1 dX19_join_147 (by decide) ?_
    refine lv_icmp_ge (tgt := 169) F.1 F.2.1 dX19_join_149 (by decide) (fun hc => absurd hc (by decide)) (fun _ => ?_)
    refine lv_aload F.1 F.2.1 dX19_join_152 (lv_at hl 1 rfl) ?_
    refine gf19_207 F hn1 hr dX19_join_154 ?_
    refine lv_iload F.1 F.2.1 dX19_join_157 (lv_at hl 0 rfl) ?_
    refine lv_ldcw (v := (-1000000)) F.1 F.2.1 F.2.2.2.1 (F.2.2.2.2.1 _ zq_2519) dX19_join_159 ?_
    refine zr_iast (k := 167) (by decide) rfl (by decide) F (zal_a F hn1 (j := 6) rfl) hr dX19_join_162 (by unfold vp_in; decide) (fun H locs z56 ez56 hr => ?_)
    replace h := zl_sub ez56 h
    clear ez56
    refine lv_iinc (v := (4 : Int32)) (lv' := [(6, .int (4 : Int32)), (5, .ref (B1 18 n1)), (0, .ref (B1 19 x0)), (3, .ref (B1 12 x3)), (4, .ref (B1 16 a43))]) F.1 F.2.1 dX19_join_163 hl (k := 0) rfl (by decide) (by decide) rfl (fun ls hl => ?_)
    refine lv_goto (tgt := 145) F.1 F.2.1 dX19_join_166 (by decide) ?_
    refine lv_iload F.1 F.2.1 dX19_join_145 (lv_at hl 0 rfl) ?_
    refine lv_bipush (v := (8 : Int32)) F.1 F.2.1 dX19_join_147 (by decide) ?_
    refine lv_icmp_ge (tgt := 169) F.1 F.2.1 dX19_join_149 (by decide) (fun hc => absurd hc (by decide)) (fun _ => ?_)
    refine lv_aload F.1 F.2.1 dX19_join_152 (lv_at hl 1 rfl) ?_
    refine gf19_207 F hn1 hr dX19_join_154 ?_
    refine lv_iload F.1 F.2.1 dX19_join_157 (lv_at hl 0 rfl) ?_
    refine lv_ldcw (v := (-1000000)) F.1 F.2.1 F.2.2.2.1 (F.2.2.2.2.1 _ zq_2519) dX19_join_159 ?_
    refine zr_iast (k := 167) (by decide) rfl (by decide) F (zal_a F hn1 (j := 6) rfl) hr dX19_join_162 (by unfold vp_in; decide) (fun H locs z58 ez58 hr => ?_)
    replace h := zl_sub ez58 h
    clear ez58
    refine lv_iinc (v := (5 : Int32)) (lv' := [(6, .int (5 : Int32)), (5, .ref (B1 18 n1)), (0, .ref (B1 19 x0)), (3, .ref (B1 12 x3)), (4, .ref (B1 16 a43))]) F.1 F.2.1 dX19_join_163 hl (k := 0) rfl (by decide) (by decide) rfl (fun ls hl => ?_)
    refine lv_goto (tgt := 145) F.1 F.2.1 dX19_join_166 (by decide) ?_
    refine lv_iload F.1 F.2.1 dX19_join_145 (lv_at hl 0 rfl) ?_
    refine lv_bipush (v := (8 : Int32)) F.1 F.2.1 dX19_join_147 (by decide) ?_
    refine lv_icmp_ge (tgt := 169) F.1 F.2.1 dX19_join_149 (by decide) (fun hc => absurd hc (by decide)) (fun _ => ?_)
    refine lv_aload F.1 F.2.1 dX19_join_152 (lv_at hl 1 rfl) ?_
    refine gf19_207 F hn1 hr dX19_join_154 ?_
    refine lv_iload F.1 F.2.1 dX19_join_157 (lv_at hl 0 rfl) ?_
    refine lv_ldcw (v := (-1000000)) F.1 F.2.1 F.2.2.2.1 (F.2.2.2.2.1 _ zq_2519) dX19_join_159 ?_
    refine zr_iast (k := 167) (by decide) rfl (by decide) F (zal_a F hn1 (j := 6) rfl) hr dX19_join_162 (by unfold vp_in; decide) (fun H locs z60 ez60 hr => ?_)
    replace h := zl_sub ez60 h
    clear ez60
    refine lv_iinc (v := (6 : Int32)) (lv' := [(6, .int (6 : Int32)), (5, .ref (B1 18 n1)), (0, .ref (B1 19 x0)), (3, .ref (B1 12 x3)), (4, .ref (B1 16 a43))]) F.1 F.2.1 dX19_join_163 hl (k := 0) rfl (by decide) (by decide) rfl (fun ls hl => ?_)
    refine lv_goto (tgt := 145) F.1 F.2.1 dX19_join_166 (by decide) ?_
    refine lv_iload F.1 F.2.1 dX19_join_145 (lv_at hl 0 rfl) ?_
    refine lv_bipush (v := (8 : Int32)) F.1 F.2.1 dX19_join_147 (by decide) ?_
    refine lv_icmp_ge (tgt := 169) F.1 F.2.1 dX19_join_149 (by decide) (fun hc => absurd hc (by decide)) (fun _ => ?_)
    refine lv_aload F.1 F.2.1 dX19_join_152 (lv_at hl 1 rfl) ?_
    refine gf19_207 F hn1 hr dX19_join_154 ?_
    refine lv_iload F.1 F.2.1 dX19_join_157 (lv_at hl 0 rfl) ?_
    refine lv_ldcw (v := (-1000000)) F.1 F.2.1 F.2.2.2.1 (F.2.2.2.2.1 _ zq_2519) dX19_join_159 ?_
    refine zr_iast (k := 167) (by decide) rfl (by decide) F (zal_a F hn1 (j := 6) rfl) hr dX19_join_162 (by unfold vp_in; decide) (fun H locs z62 ez62 hr => ?_)
    replace h := zl_sub ez62 h
    clear ez62
    refine lv_iinc (v := (7 : Int32)) (lv' := [(6, .int (7 : Int32)), (5, .ref (B1 18 n1)), (0, .ref (B1 19 x0)), (3, .ref (B1 12 x3)), (4, .ref (B1 16 a43))]) F.1 F.2.1 dX19_join_163 hl (k := 0) rfl (by decide) (by decide) rfl (fun ls hl => ?_)
    refine lv_goto (tgt := 145) F.1 F.2.1 dX19_join_166 (by decide) ?_
    refine lv_iload F.1 F.2.1 dX19_join_145 (lv_at hl 0 rfl) ?_
    refine lv_bipush (v := (8 : Int32)) F.1 F.2.1 dX19_join_147 (by decide) ?_
    refine lv_icmp_ge (tgt := 169) F.1 F.2.1 dX19_join_149 (by decide) (fun hc => absurd hc (by decide)) (fun _ => ?_)
    refine lv_aload F.1 F.2.1 dX19_join_152 (lv_at hl 1 rfl) ?_
    refine gf19_207 F hn1 hr dX19_join_154 ?_
    refine lv_iload F.1 F.2.1 dX19_join_157 (lv_at hl 0 rfl) ?_
    refine lv_ldcw (v := (-1000000)) F.1 F.2.1 F.2.2.2.1 (F.2.2.2.2.1 _ zq_2519) dX19_join_159 ?_
    refine zr_iast (k := 167) (by decide) rfl (by decide) F (zal_a F hn1 (j := 6) rfl) hr dX19_join_162 (by unfold vp_in; decide) (fun H locs z64 ez64 hr => ?_)
    replace h := zl_sub ez64 h
    clear ez64
    refine lv_iinc (v := (8 : Int32)) (lv' := [(6, .int (8 : Int32)), (5, .ref (B1 18 n1)), (0, .ref (B1 19 x0)), (3, .ref (B1 12 x3)), (4, .ref (B1 16 a43))]) F.1 F.2.1 dX19_join_163 hl (k := 0) rfl (by decide) (by decide) rfl (fun ls hl => ?_)
    refine lv_goto (tgt := 145) F.1 F.2.1 dX19_join_166 (by decide) ?_
    refine lv_iload F.1 F.2.1 dX19_join_145 (lv_at hl 0 rfl) ?_
    refine lv_bipush (v := (8 : Int32)) F.1 F.2.1 dX19_join_147 (by decide) ?_
    refine lv_icmp_ge (tgt := 169) F.1 F.2.1 dX19_join_149 (by decide) (fun _ => ?_) (fun hc => absurd (by decide) hc)
    refine lv_aload_n F.1 F.2.1 dX19_join_169 rfl (lv_at hl 3 rfl) ?_
    refine gf19_276 F ha1_1 hr dX19_join_170 ?_
    refine lv_aload_n F.1 F.2.1 dX19_join_173 rfl (lv_at hl 3 rfl) ?_
    refine gf19_273 F ha1_1 hr dX19_join_174 ?_
    refine lv_aload F.1 F.2.1 dX19_join_177 (lv_at hl 1 rfl) ?_
    replace h := zk_some h
    obtain ⟨c65, h⟩ := h
    refine zr_aast (k := 147) (v := (some n1)) (T := TX18) (N := 13) (by decide) rfl (by decide) rfl rfl F (zal_a F ha1_1 (j := 2) rfl) hr dX19_join_179 (by rw [zlen_d (by decide)]; exact c65) (zal_s hn1) (fun H locs z66 ez66 hr => ?_)
    replace h := zl_sub ez66 h
    clear ez66
    refine lv_aload_n F.1 F.2.1 dX19_join_180 rfl (lv_at hl 3 rfl) ?_
    refine lv_dup F.1 F.2.1 dX19_join_181 rfl ?_
    refine gf19_273 F ha1_1 hr dX19_join_182 ?_
    refine lv_iconst (v := (1 : Int32)) F.1 F.2.1 dX19_join_185 (by decide) ?_
    refine lv_iadd F.1 F.2.1 dX19_join_186 ?_
    refine pf19_273 F ha1_1 hr dX19_join_187 ((zgI z66 12 3 x3) + (1 : Int32)) (fun H locs z67 ez67 hr => ?_)
    replace h := zl_sub ez67 h
    clear ez67
    refine lv_aload F.1 F.2.1 dX19_join_190 (lv_at hl 4 rfl) ?_
    refine gf19_295 F ha1_2 hr dX19_join_192 ?_
    refine lv_aload F.1 F.2.1 dX19_join_195 (lv_at hl 4 rfl) ?_
    refine gf19_292 F ha1_2 hr dX19_join_197 ?_
    refine lv_aload F.1 F.2.1 dX19_join_200 (lv_at hl 1 rfl) ?_
    replace h := zk_some h
    obtain ⟨c68, h⟩ := h
    refine zr_aast (k := 164) (v := (some n1)) (T := TX18) (N := 13) (by decide) rfl (by decide) rfl rfl F (zal_a F ha1_2 (j := 4) rfl) hr dX19_join_202 (by rw [zlen_d (by decide)]; exact c68) (zal_s hn1) (fun H locs z69 ez69 hr => ?_)
    replace h := zl_sub ez69 h
    clear ez69
    refine lv_aload F.1 F.2.1 dX19_join_203 (lv_at hl 4 rfl) ?_
    refine lv_dup F.1 F.2.1 dX19_join_205 rfl ?_
    refine gf19_292 F ha1_2 hr dX19_join_206 ?_
    refine lv_iconst (v := (1 : Int32)) F.1 F.2.1 dX19_join_209 (by decide) ?_
    refine lv_iadd F.1 F.2.1 dX19_join_210 ?_
    refine pf19_292 F ha1_2 hr dX19_join_211 ((zgI z69 16 5 a43) + (1 : Int32)) (fun H locs z70 ez70 hr => ?_)
    replace h := zl_sub ez70 h
    clear ez70
    refine lv_aload_n F.1 F.2.1 dX19_join_214 rfl (lv_at hl 3 rfl) ?_
    refine lv_iconst (v := (1 : Int32)) F.1 F.2.1 dX19_join_215 (by decide) ?_
    refine pf19_489 F ha1_1 hr dX19_join_216 (1 : Int32) (by decide) (fun H locs z71 ez71 hr => ?_)
    replace h := zl_sub ez71 h
    clear ez71
    refine lv_aload_n F.1 F.2.1 dX19_join_219 rfl (lv_at hl 3 rfl) ?_
    refine lv_iconst (v := (1 : Int32)) F.1 F.2.1 dX19_join_220 (by decide) ?_
    refine pf19_486 F ha1_1 hr dX19_join_221 (1 : Int32) (by decide) (fun H locs z72 ez72 hr => ?_)
    replace h := zl_sub ez72 h
    clear ez72
    refine lv_aload_n F.1 F.2.1 dX19_join_224 rfl (lv_at hl 2 rfl) ?_
    replace h := zc_some h
    obtain ⟨r73, z74, hc75, h⟩ := h
    refine zr_callv (zrun_V (As := []) (rest := []) zq_2394 zq_2396 zs_X19_stir zq_2397 zq_4 hdX19_stir (by decide) (T := TX19) (N := 32) rfl (okX19_stir l D cy B1 I1 hst N x0 ha1_0 hr.2.2 hc75) F hr ha1_0 hl.1 rfl (by decide) dX19_join_225 rfl rfl (hroX19_join_X19_stir RC RS) ⟨Nat.le_trans (Nat.le_of_ble_eq_true rfl) hca1, Nat.le_trans (Nat.le_of_ble_eq_true rfl) hcb1⟩) F hA hr (fun H locs hw76 hr => ?_)
    clear hc75
    refine lv_aload F.1 F.2.1 dX19_join_228 (lv_at hl 1 rfl) ?_
    replace h := zc_some h
    obtain ⟨r77, z78, hc79, h⟩ := h
    refine zr_calli (zrun_VN (As := []) (rest := []) zn_2520 zq_2522 zs_X18_address zq_2523 zq_25 hdX18_address (by decide) (T := TX18) (N := 13) rfl (okX18_address l D cy B1 I1 hst N n1 hn1 hr.2.2 hc79) F hr hn1 hl.1 rfl (by decide) dX19_join_230 rfl rfl (hroX19_join_X18_address RC RS) ⟨Nat.le_trans (Nat.le_of_ble_eq_true rfl) hca1, Nat.le_trans (Nat.le_of_ble_eq_true rfl) hcb1⟩) F hA hr (fun H locs hw80 hr => ?_)
    clear hc79
    obtain ⟨rfl, rfl, rfl⟩ := zret3 h
    exact zme_i F hx hst h9 hret hlocks dX19_join_233 hr (Nat.le_trans (Nat.le_of_ble_eq_true rfl) hca1) (Nat.le_trans (Nat.le_of_ble_eq_true rfl) hcb1)
  · replace h := zi_f c42 h
    refine lv_iconst (v := (0 : Int32)) F.1 F.2.1 dX19_join_99 (by decide) ?_
    obtain ⟨rfl, rfl, rfl⟩ := zret3 h
    exact zme_i F hx hst h9 hret hlocks dX19_join_100 hr (Nat.zero_le _) (Nat.zero_le _)
noncomputable def fX19_join_22 (N RC RS : Nat) (x0 : Nat) (x1 : Int32) (x2 : Int32) (s0 : Nat) (s1 : Int32) (ids : List (Nat × Nat)) (z : St) : Option (Int32 × St × List (Nat × Nat)) := zc (fX19_fails N s0 s1 (0 : Int32) z) fun r11 z12 => if r11 = 0 then (zk x1 16 <| zl (zgQ z12 186 x0 (Int32.toNatClampNeg x1)) fun y17 => zk x2 24 <| zl (zgQ z12 187 x0 (Int32.toNatClampNeg x2)) fun y19 => zd y17 fun a20 => if (zgI z12 12 1 a20) = 0 then (if (zgI z12 12 3 a20) = (1 : Int32) then (fX19_join_93 N RC RS x0 a20 y19 x0 (0 : Int32) (1 : Int32) ids z12) else (zd y19 fun a23 => zc (fX19_stationOf N a20 a23 z12) fun r24 z25 => if ¬ r24 = (-1 : Int32) then (fX19_join_93 N RC RS x0 a20 (some a23) x0 (0 : Int32) (1 : Int32) ids z25) else (if ¬ (zgI z25 16 5 a23) = (8 : Int32) then (fX19_join_93 N RC RS x0 a20 (some a23) x0 (0 : Int32) (0 : Int32) ids z25) else (fX19_join_93 N RC RS x0 a20 (some a23) x0 (0 : Int32) (1 : Int32) ids z25)))) else (if (zgI z12 12 3 a20) = (6 : Int32) then (fX19_join_93 N RC RS x0 a20 y19 x0 (0 : Int32) (1 : Int32) ids z12) else (zd y19 fun a31 => zc (fX19_stationOf N a20 a31 z12) fun r32 z33 => if ¬ r32 = (-1 : Int32) then (fX19_join_93 N RC RS x0 a20 (some a31) x0 (0 : Int32) (1 : Int32) ids z33) else (if ¬ (zgI z33 16 5 a31) = (8 : Int32) then (fX19_join_93 N RC RS x0 a20 (some a31) x0 (0 : Int32) (0 : Int32) ids z33) else (fX19_join_93 N RC RS x0 a20 (some a31) x0 (0 : Int32) (1 : Int32) ids z33))))) else (some ((0 : Int32), z12, ids))
set_option maxHeartbeats 16000000 in
set_option maxRecDepth 100000 in
theorem bX19_join_22 (hst : zSt B ids) (h9 : zI9 ids) {N RC RS : Nat} (F : zFx p m c cX19_join 7 s args RX19 D cy B ids A) (hA : ∀ q : Nat, s.heap.size ≤ q → A q) (hret : meth.sig.returnType = (some .int)) (hlocks : meth.locks = false) (hAO : zAO s) (x0 : Nat) (x1 : Int32) (x2 : Int32) (s0 : Nat) (s1 : Int32) (hx0 : (19, x0) ∈ ids) (hs0 : (19, s0) ∈ ids) {r : Int32} {z' : St} {I' : List (Nat × Nat)} {z : St} {H : Heap} {locs : List Loc} {ls : Array Slot} (hr : zRep D cy B ids A s.heap z H locs) (hl : lv_has ls 7 [(0, .ref (B 19 x0)), (1, .int x1), (2, .int x2)]) (h : fX19_join_22 N RC RS x0 x1 x2 s0 s1 ids z = some (r, z', I')) : W p l e (rmX19_join RC RS) s m args below meth c H locs 0 0 (MQ below (zQm D cy (some (.int r)) z' I' B ids A) args s RC RS A) (F0 m 22 ls [.int s1, .ref (B 19 s0)]) := by
  unfold fX19_join_22 at h
  have hx := zExt_rf B ids
  refine lv_iconst (v := (0 : Int32)) F.1 F.2.1 dX19_join_22 (by decide) ?_
  replace h := zc_some h
  obtain ⟨r11, z12, hc13, h⟩ := h
  refine zr_calli (zrun_V (As := [.int s1, .int (0 : Int32)]) (rest := []) zq_2402 zq_2404 zs_X19_fails zq_2405 zq_4 hdX19_fails (by decide) (T := TX19) (N := 32) rfl (okX19_fails l D cy B ids hst N s0 hs0 s1  (0 : Int32)  hr.2.2 hc13) F hr hs0 hl.1 rfl (by decide) dX19_join_23 rfl rfl (hroX19_join_X19_fails RC RS) ⟨Nat.zero_le _, Nat.zero_le _⟩) F hA hr (fun H locs hw14 hr => ?_)
  clear hc13
  refine lv_if_eq (tgt := 31) F.1 F.2.1 dX19_join_26 (by decide) (fun c15 => ?_) (fun c15 => ?_)
  · replace h := zi_t c15 h
    refine lv_aload_n F.1 F.2.1 dX19_join_31 rfl (lv_at hl 0 rfl) ?_
    refine gf19_114 F hx0 hr dX19_join_32 ?_
    refine lv_iload_n F.1 F.2.1 dX19_join_35 rfl (lv_at hl 1 rfl) ?_
    replace h := zk_some h
    obtain ⟨c16, h⟩ := h
    refine zr_aaldv (k := 186) (by decide) rfl rfl (zlen_d (by decide)) F (zal_a F hx0 (j := 18) rfl) hr dX19_join_36 c16 (fun y17 ey17 => ?_)
    replace h := zl_sub ey17 h
    have hy17 := zal_q hr (zal_a F hx0 (j := 18) rfl) rfl ey17
    clear ey17
    refine zr_astore_n (lv' := [(3, va_rf (Option.map (B 12) y17)), (0, .ref (B 19 x0)), (1, .int x1), (2, .int x2)]) F.1 F.2.1 dX19_join_37 rfl hl (by decide) rfl (fun ls hl => ?_)
    refine lv_aload_n F.1 F.2.1 dX19_join_38 rfl (lv_at hl 1 rfl) ?_
    refine gf19_120 F hx0 hr dX19_join_39 ?_
    refine lv_iload_n F.1 F.2.1 dX19_join_42 rfl (lv_at hl 3 rfl) ?_
    replace h := zk_some h
    obtain ⟨c18, h⟩ := h
    refine zr_aaldv (k := 187) (by decide) rfl rfl (zlen_d (by decide)) F (zal_a F hx0 (j := 20) rfl) hr dX19_join_43 c18 (fun y19 ey19 => ?_)
    replace h := zl_sub ey19 h
    have hy19 := zal_q hr (zal_a F hx0 (j := 20) rfl) rfl ey19
    clear ey19
    refine zr_astore (lv' := [(4, va_rf (Option.map (B 16) y19)), (3, va_rf (Option.map (B 12) y17)), (0, .ref (B 19 x0)), (1, .int x1), (2, .int x2)]) F.1 F.2.1 dX19_join_44 hl (by decide) (by simp only [List.filter, zrf_cat]; rfl) (fun ls hl => ?_)
    refine lv_aload_n F.1 F.2.1 dX19_join_46 rfl (lv_at hl 2 rfl) ?_
    refine lv_iconst (v := (0 : Int32)) F.1 F.2.1 dX19_join_47 (by decide) ?_
    refine zr_aload_n F.1 F.2.1 dX19_join_48 rfl (lv_at hl 1 rfl) ?_
    replace h := zd_some h
    obtain ⟨a20, rfl, h⟩ := h
    refine gf19_273 F (hy17 _ rfl) hr dX19_join_49 ?_
    refine lv_aload_n F.1 F.2.1 dX19_join_52 rfl (lv_at hl 1 rfl) ?_
    refine gf19_298 F (hy17 _ rfl) hr dX19_join_53 ?_
    refine lv_if_eq (tgt := 64) F.1 F.2.1 dX19_join_56 (by decide) (fun c21 => ?_) (fun c21 => ?_)
    · replace h := zi_t c21 h
      refine lv_iconst (v := (1 : Int32)) F.1 F.2.1 dX19_join_64 (by decide) ?_
      refine lv_icmp_eq (tgt := 88) F.1 F.2.1 dX19_join_65 (by decide) (fun c22 => ?_) (fun c22 => ?_)
      · replace h := zi_t c22 h
        refine lv_iconst (v := (1 : Int32)) F.1 F.2.1 dX19_join_88 (by decide) ?_
        refine lv_goto (tgt := 93) F.1 F.2.1 dX19_join_89 (by decide) ?_
        exact bX19_join_93 hst h9 F hA hret hlocks hAO x0 a20 y19 x0 (0 : Int32) (1 : Int32) hx0 (hy17 _ rfl) hy19 hx0 hr (lv_sub hl [2, 1, 0] rfl) h
      · replace h := zi_f c22 h
        refine lv_aload_n F.1 F.2.1 dX19_join_68 rfl (lv_at hl 1 rfl) ?_
        refine zr_aload F.1 F.2.1 dX19_join_69 (lv_at hl 0 rfl) ?_
        replace h := zd_some h
        obtain ⟨a23, rfl, h⟩ := h
        replace h := zc_some h
        obtain ⟨r24, z25, hc26, h⟩ := h
        refine zr_calli (zrun_S (As := [.ref (B 12 a20), .ref (B 16 a23)]) (rest := [.int (0 : Int32), .ref (B 19 x0)]) zq_2459 zq_2460 zq_2461 zq_4 hdX19_stationOf (okX19_stationOf l D cy B ids hst N a20 (hy17 _ rfl) a23 (hy19 _ rfl) hr.2.2 hc26) F hr hl.1 rfl (Nat.le_of_ble_eq_true rfl) dX19_join_71 rfl rfl (hroX19_join_X19_stationOf RC RS) ⟨Nat.zero_le _, Nat.zero_le _⟩) F hA hr (fun H locs hw27 hr => ?_)
        clear hc26
        refine lv_iconst (v := (-1 : Int32)) F.1 F.2.1 dX19_join_74 (by decide) ?_
        refine lv_icmp_ne (tgt := 88) F.1 F.2.1 dX19_join_75 (by decide) (fun c28 => ?_) (fun c28 => ?_)
        · replace h := zi_t c28 h
          refine lv_iconst (v := (1 : Int32)) F.1 F.2.1 dX19_join_88 (by decide) ?_
          refine lv_goto (tgt := 93) F.1 F.2.1 dX19_join_89 (by decide) ?_
          exact bX19_join_93 hst h9 F hA hret hlocks hAO x0 a20 (some a23) x0 (0 : Int32) (1 : Int32) hx0 (hy17 _ rfl) (zal_s (hy19 _ rfl)) hx0 hr (lv_sub hl [2, 1, 0] rfl) h
        · replace h := zi_f (fun q => q c28) h
          refine lv_aload F.1 F.2.1 dX19_join_78 (lv_at hl 0 rfl) ?_
          refine gf19_292 F (hy19 _ rfl) hr dX19_join_80 ?_
          refine lv_bipush (v := (8 : Int32)) F.1 F.2.1 dX19_join_83 (by decide) ?_
          refine lv_icmp_ne (tgt := 92) F.1 F.2.1 dX19_join_85 (by decide) (fun c29 => ?_) (fun c29 => ?_)
          · replace h := zi_t c29 h
            refine lv_iconst (v := (0 : Int32)) F.1 F.2.1 dX19_join_92 (by decide) ?_
            exact bX19_join_93 hst h9 F hA hret hlocks hAO x0 a20 (some a23) x0 (0 : Int32) (0 : Int32) hx0 (hy17 _ rfl) (zal_s (hy19 _ rfl)) hx0 hr (lv_sub hl [2, 1, 0] rfl) h
          · replace h := zi_f (fun q => q c29) h
            refine lv_iconst (v := (1 : Int32)) F.1 F.2.1 dX19_join_88 (by decide) ?_
            refine lv_goto (tgt := 93) F.1 F.2.1 dX19_join_89 (by decide) ?_
            exact bX19_join_93 hst h9 F hA hret hlocks hAO x0 a20 (some a23) x0 (0 : Int32) (1 : Int32) hx0 (hy17 _ rfl) (zal_s (hy19 _ rfl)) hx0 hr (lv_sub hl [2, 1, 0] rfl) h
    · replace h := zi_f c21 h
      refine lv_bipush (v := (6 : Int32)) F.1 F.2.1 dX19_join_59 (by decide) ?_
      refine lv_goto (tgt := 65) F.1 F.2.1 dX19_join_61 (by decide) ?_
      refine lv_icmp_eq (tgt := 88) F.1 F.2.1 dX19_join_65 (by decide) (fun c30 => ?_) (fun c30 => ?_)
      · replace h := zi_t c30 h
        refine lv_iconst (v := (1 : Int32)) F.1 F.2.1 dX19_join_88 (by decide) ?_
        refine lv_goto (tgt := 93) F.1 F.2.1 dX19_join_89 (by decide) ?_
        exact bX19_join_93 hst h9 F hA hret hlocks hAO x0 a20 y19 x0 (0 : Int32) (1 : Int32) hx0 (hy17 _ rfl) hy19 hx0 hr (lv_sub hl [2, 1, 0] rfl) h
      · replace h := zi_f c30 h
        refine lv_aload_n F.1 F.2.1 dX19_join_68 rfl (lv_at hl 1 rfl) ?_
        refine zr_aload F.1 F.2.1 dX19_join_69 (lv_at hl 0 rfl) ?_
        replace h := zd_some h
        obtain ⟨a31, rfl, h⟩ := h
        replace h := zc_some h
        obtain ⟨r32, z33, hc34, h⟩ := h
        refine zr_calli (zrun_S (As := [.ref (B 12 a20), .ref (B 16 a31)]) (rest := [.int (0 : Int32), .ref (B 19 x0)]) zq_2459 zq_2460 zq_2461 zq_4 hdX19_stationOf (okX19_stationOf l D cy B ids hst N a20 (hy17 _ rfl) a31 (hy19 _ rfl) hr.2.2 hc34) F hr hl.1 rfl (Nat.le_of_ble_eq_true rfl) dX19_join_71 rfl rfl (hroX19_join_X19_stationOf RC RS) ⟨Nat.zero_le _, Nat.zero_le _⟩) F hA hr (fun H locs hw35 hr => ?_)
        clear hc34
        refine lv_iconst (v := (-1 : Int32)) F.1 F.2.1 dX19_join_74 (by decide) ?_
        refine lv_icmp_ne (tgt := 88) F.1 F.2.1 dX19_join_75 (by decide) (fun c36 => ?_) (fun c36 => ?_)
        · replace h := zi_t c36 h
          refine lv_iconst (v := (1 : Int32)) F.1 F.2.1 dX19_join_88 (by decide) ?_
          refine lv_goto (tgt := 93) F.1 F.2.1 dX19_join_89 (by decide) ?_
          exact bX19_join_93 hst h9 F hA hret hlocks hAO x0 a20 (some a31) x0 (0 : Int32) (1 : Int32) hx0 (hy17 _ rfl) (zal_s (hy19 _ rfl)) hx0 hr (lv_sub hl [2, 1, 0] rfl) h
        · replace h := zi_f (fun q => q c36) h
          refine lv_aload F.1 F.2.1 dX19_join_78 (lv_at hl 0 rfl) ?_
          refine gf19_292 F (hy19 _ rfl) hr dX19_join_80 ?_
          refine lv_bipush (v := (8 : Int32)) F.1 F.2.1 dX19_join_83 (by decide) ?_
          refine lv_icmp_ne (tgt := 92) F.1 F.2.1 dX19_join_85 (by decide) (fun c37 => ?_) (fun c37 => ?_)
          · replace h := zi_t c37 h
            refine lv_iconst (v := (0 : Int32)) F.1 F.2.1 dX19_join_92 (by decide) ?_
            exact bX19_join_93 hst h9 F hA hret hlocks hAO x0 a20 (some a31) x0 (0 : Int32) (0 : Int32) hx0 (hy17 _ rfl) (zal_s (hy19 _ rfl)) hx0 hr (lv_sub hl [2, 1, 0] rfl) h
          · replace h := zi_f (fun q => q c37) h
            refine lv_iconst (v := (1 : Int32)) F.1 F.2.1 dX19_join_88 (by decide) ?_
            refine lv_goto (tgt := 93) F.1 F.2.1 dX19_join_89 (by decide) ?_
            exact bX19_join_93 hst h9 F hA hret hlocks hAO x0 a20 (some a31) x0 (0 : Int32) (1 : Int32) hx0 (hy17 _ rfl) (zal_s (hy19 _ rfl)) hx0 hr (lv_sub hl [2, 1, 0] rfl) h
  · replace h := zi_f c15 h
    refine lv_iconst (v := (0 : Int32)) F.1 F.2.1 dX19_join_29 (by decide) ?_
    obtain ⟨rfl, rfl, rfl⟩ := zret3 h
    exact zme_i F hx hst h9 hret hlocks dX19_join_30 hr (Nat.zero_le _) (Nat.zero_le _)
noncomputable def fX19_join (N RC RS : Nat) (x0 : Nat) (x1 : Int32) (x2 : Int32) (ids : List (Nat × Nat)) (z : St) : Option (Int32 × St × List (Nat × Nat)) := zc (fX19_isBox N x0 x1 z) fun r1 z2 => if r1 = 0 then (fX19_join_22 N RC RS x0 x1 x2 x0 (1 : Int32) ids z2) else (zc (fX19_isNet N x0 x2 z2) fun r6 z7 => if ¬ r6 = 0 then (fX19_join_22 N RC RS x0 x1 x2 x0 (0 : Int32) ids z7) else (fX19_join_22 N RC RS x0 x1 x2 x0 (1 : Int32) ids z7))
set_option maxHeartbeats 16000000 in
set_option maxRecDepth 100000 in
theorem bX19_join_0 (hst : zSt B ids) (h9 : zI9 ids) {N RC RS : Nat} (F : zFx p m c cX19_join 7 s args RX19 D cy B ids A) (hA : ∀ q : Nat, s.heap.size ≤ q → A q) (hret : meth.sig.returnType = (some .int)) (hlocks : meth.locks = false) (hAO : zAO s) (x0 : Nat) (x1 : Int32) (x2 : Int32) (hx0 : (19, x0) ∈ ids) {r : Int32} {z' : St} {I' : List (Nat × Nat)} {z : St} {H : Heap} {locs : List Loc} {ls : Array Slot} (hr : zRep D cy B ids A s.heap z H locs) (hl : lv_has ls 7 [(0, .ref (B 19 x0)), (1, .int x1), (2, .int x2)]) (h : fX19_join N RC RS x0 x1 x2 ids z = some (r, z', I')) : W p l e (rmX19_join RC RS) s m args below meth c H locs 0 0 (MQ below (zQm D cy (some (.int r)) z' I' B ids A) args s RC RS A) (F0 m 0 ls []) := by
  unfold fX19_join at h
  have hx := zExt_rf B ids
  refine lv_aload_n F.1 F.2.1 dX19_join_0 rfl (lv_at hl 0 rfl) ?_
  refine lv_aload_n F.1 F.2.1 dX19_join_1 rfl (lv_at hl 0 rfl) ?_
  refine lv_iload_n F.1 F.2.1 dX19_join_2 rfl (lv_at hl 1 rfl) ?_
  replace h := zc_some h
  obtain ⟨r1, z2, hc3, h⟩ := h
  refine zr_calli (zrun_V (As := [.int x1]) (rest := [.ref (B 19 x0)]) zq_2451 zq_2453 zs_X19_isBox zq_2454 zq_4 hdX19_isBox (by decide) (T := TX19) (N := 32) rfl (okX19_isBox l D cy B ids hst N x0 hx0 x1  hr.2.2 hc3) F hr hx0 hl.1 rfl (Nat.le_of_ble_eq_true rfl) dX19_join_3 rfl rfl (hroX19_join_X19_isBox RC RS) ⟨Nat.zero_le _, Nat.zero_le _⟩) F hA hr (fun H locs hw4 hr => ?_)
  clear hc3
  refine lv_if_eq (tgt := 17) F.1 F.2.1 dX19_join_6 (by decide) (fun c5 => ?_) (fun c5 => ?_)
  · replace h := zi_t c5 h
    refine lv_iconst (v := (1 : Int32)) F.1 F.2.1 dX19_join_17 (by decide) ?_
    refine lv_goto (tgt := 22) F.1 F.2.1 dX19_join_18 (by decide) ?_
    exact bX19_join_22 hst h9 F hA hret hlocks hAO x0 x1 x2 x0 (1 : Int32) hx0 hx0 hr (lv_sub hl [0, 1, 2] rfl) h
  · replace h := zi_f c5 h
    refine lv_aload_n F.1 F.2.1 dX19_join_9 rfl (lv_at hl 0 rfl) ?_
    refine lv_iload_n F.1 F.2.1 dX19_join_10 rfl (lv_at hl 2 rfl) ?_
    replace h := zc_some h
    obtain ⟨r6, z7, hc8, h⟩ := h
    refine zr_calli (zrun_V (As := [.int x2]) (rest := [.ref (B 19 x0)]) zq_2455 zq_2457 zs_X19_isNet zq_2458 zq_4 hdX19_isNet (by decide) (T := TX19) (N := 32) rfl (okX19_isNet l D cy B ids hst N x0 hx0 x2  hr.2.2 hc8) F hr hx0 hl.1 rfl (Nat.le_of_ble_eq_true rfl) dX19_join_11 rfl rfl (hroX19_join_X19_isNet RC RS) ⟨Nat.zero_le _, Nat.zero_le _⟩) F hA hr (fun H locs hw9 hr => ?_)
    clear hc8
    refine lv_if_ne (tgt := 21) F.1 F.2.1 dX19_join_14 (by decide) (fun c10 => ?_) (fun c10 => ?_)
    · replace h := zi_t c10 h
      refine lv_iconst (v := (0 : Int32)) F.1 F.2.1 dX19_join_21 (by decide) ?_
      exact bX19_join_22 hst h9 F hA hret hlocks hAO x0 x1 x2 x0 (0 : Int32) hx0 hx0 hr (lv_sub hl [0, 1, 2] rfl) h
    · replace h := zi_f (fun q => q c10) h
      refine lv_iconst (v := (1 : Int32)) F.1 F.2.1 dX19_join_17 (by decide) ?_
      refine lv_goto (tgt := 22) F.1 F.2.1 dX19_join_18 (by decide) ?_
      exact bX19_join_22 hst h9 F hA hret hlocks hAO x0 x1 x2 x0 (1 : Int32) hx0 hx0 hr (lv_sub hl [0, 1, 2] rfl) h
end SX19_join
set_option maxRecDepth 100000 in
theorem okX19_join (l : Launch) (D : va_G) (cy : Nat → ClassId) (B : Nat → Nat → Nat) (ids : List (Nat × Nat)) (hst : zSt B ids) (h9 : zI9 ids) (N RC RS : Nat) (x0 : Nat) (hx0 : (19, x0) ∈ ids) (x1 : Int32) (x2 : Int32) {z : St} {r : Int32} {z' : St} {I' : List (Nat × Nat)} (hW : zWf ids z) (h : fX19_join N RC RS x0 x1 x2 ids z = some (r, z', I')) : zMm l yX19_join (zws yX19_join cX19_join 7 (some .int)) (rmX19_join RC RS) D cy B ids [.ref (B 19 x0), .int x1, .int x2] (some (.int r)) z z' I' :=
  zMm_of hst hW (by decide +kernel) (Nat.le_of_ble_eq_true rfl) (fun p e s m args below meth c A ls F hA hret hlocks hAO hr hl => bX19_join_0 hst h9 F hA hret hlocks hAO x0 x1 x2 hx0 hr hl h)
abbrev rmX11_join (RC RS : Nat) : Room := { frames := 6, cells := RC, slots := RS, locals := 100 }
theorem hdX11_join : yX11_join.cls ≠ "java/lang/invoke/MethodHandle" ∧ yX11_join.cls ≠ "java/lang/invoke/VarHandle" ∧ (parseMethodDescriptor yX11_join.desc).map (fun d => d.parameters.length) = some 2 := by decide +kernel
theorem hroX11_join_X11_boxOf (RC RS : Nat) : rmX11_boxOf.frames + 1 ≤ (rmX11_join RC RS).frames ∧ 8 + (2 + 11) + rmX11_boxOf.locals ≤ (rmX11_join RC RS).locals := ⟨Nat.le_of_ble_eq_true rfl, Nat.le_of_ble_eq_true rfl⟩
theorem hroX11_join_X11_changeWorld (RC RS : Nat) : rmX11_changeWorld.frames + 1 ≤ (rmX11_join RC RS).frames ∧ 8 + (1 + 11) + rmX11_changeWorld.locals ≤ (rmX11_join RC RS).locals := ⟨Nat.le_of_ble_eq_true rfl, Nat.le_of_ble_eq_true rfl⟩
theorem hroX11_join_X11_netOf (RC RS : Nat) : rmX11_netOf.frames + 1 ≤ (rmX11_join RC RS).frames ∧ 8 + (2 + 11) + rmX11_netOf.locals ≤ (rmX11_join RC RS).locals := ⟨Nat.le_of_ble_eq_true rfl, Nat.le_of_ble_eq_true rfl⟩
theorem hroX11_join_X1_portOn (RC RS : Nat) : rmX1_portOn.frames + 1 ≤ (rmX11_join RC RS).frames ∧ 8 + (3 + 11) + rmX1_portOn.locals ≤ (rmX11_join RC RS).locals := ⟨Nat.le_of_ble_eq_true rfl, Nat.le_of_ble_eq_true rfl⟩
section SX11_join
variable {p : Program} {l : Launch} {e : Env} {s : State} {m : MethodId} {args : Array Value} {below : List Frame} {meth : Method} {c : Code} {D : va_G} {cy : Nat → ClassId} {B : Nat → Nat → Nat} {ids : List (Nat × Nat)} {A : Nat → Prop}
noncomputable def fX11_join_45 (N RC RS : Nat) (x0 : Nat) (x2 : Int32) (x3 : Nat) (x4 : Nat) (s0 : Int32) (ids : List (Nat × Nat)) (z : St) : Option ((Int32 ⊕ Nat) × St × List (Nat × Nat)) := if (zgI z 1 3 x3) < s0 then (zc (fX1_portOn N x3 x2 z) fun r15 z16 => zo r15 (if (zgI z16 5 8 x4) < (8 : Int32) then (zl (8 * Int32.toNatClampNeg x2 + Int32.toNatClampNeg (zgI z16 5 8 x4)) fun n1 => zqc (zfr (znmX8 n1) ids ∧ 40 ≤ RC ∧ 25562 ≤ RS) <| zl (zmg (znmX8 n1) (zmwX8 n1 (zgI z16 1 3 x3) (zgI z16 5 8 x4) (zgI z16 5 0 x4) x3 x4) z16) fun z22 => zl (ids ++ znmX8 n1) fun I1 => zk (zgI z22 1 3 x3) 6 <| zl (zsQ z22 112 x3 (Int32.toNatClampNeg (zgI z22 1 3 x3)) (some n1)) fun z24 => zl (zsI z24 1 3 x3 ((zgI z24 1 3 x3) + (1 : Int32))) fun z25 => zk (zgI z25 5 8 x4) 8 <| zl (zsQ z25 123 x4 (Int32.toNatClampNeg (zgI z25 5 8 x4)) (some n1)) fun z27 => zl (zsI z27 5 8 x4 ((zgI z27 5 8 x4) + (1 : Int32))) fun z28 => zc (fX11_changeWorld N x0 z28) fun _ z30 => some (.inl (zgI z30 8 4 n1), z30, I1)) else (zqc (1 ≤ RC ∧ 6 ≤ RS) <| some (.inr 2, z16, ids))) fun a20 => zqc (1 ≤ RC ∧ 6 ≤ RS) <| some (.inr 2, z16, ids)) else (zqc (1 ≤ RC ∧ 6 ≤ RS) <| some (.inr 2, z, ids))
set_option maxHeartbeats 16000000 in
set_option maxRecDepth 100000 in
theorem bX11_join_45 (hst : zSt B ids) (h9 : zI9 ids) {N RC RS : Nat} (F : zFx p m c cX11_join 7 s args RX11 D cy B ids A) (hA : ∀ q : Nat, s.heap.size ≤ q → A q) (hret : meth.sig.returnType = (some .int)) (hlocks : meth.locks = false) (hAO : zAO s) (hlf : l.stackTraces = false) (htab : ∀ x ∈ c.exceptionTable.toList, False) (hX : zXK A s s.heap) (x0 : Nat) (x2 : Int32) (x3 : Nat) (x4 : Nat) (s0 : Int32) (hx0 : (11, x0) ∈ ids) (hx3 : (1, x3) ∈ ids) (hx4 : (5, x4) ∈ ids) {r : (Int32 ⊕ Nat)} {z' : St} {I' : List (Nat × Nat)} {z : St} {H : Heap} {locs : List Loc} {ls : Array Slot} (hr : zRep D cy B ids A s.heap z H locs) (hl : lv_has ls 7 [(0, .ref (B 11 x0)), (2, .int x2), (3, .ref (B 1 x3)), (4, .ref (B 5 x4))]) (h : fX11_join_45 N RC RS x0 x2 x3 x4 s0 ids z = some (r, z', I')) : W p l e (rmX11_join RC RS) s m args below meth c H locs 0 0 (vx_MQ below (zQXm D cy r z' I' B ids A) (zXCm D cy r z' I' B ids A) args s RC RS A) (F0 m 45 ls [.int s0]) := by
  unfold fX11_join_45 at h
  have hx := zExt_rf B ids
  refine lv_istore (lv' := [(5, .int s0), (0, .ref (B 11 x0)), (2, .int x2), (3, .ref (B 1 x3)), (4, .ref (B 5 x4))]) F.1 F.2.1 dX11_join_45 hl (by decide) rfl (fun ls hl => ?_)
  refine lv_aload_n F.1 F.2.1 dX11_join_47 rfl (lv_at hl 3 rfl) ?_
  refine gf11_113 F hx3 hr dX11_join_48 ?_
  refine lv_iload F.1 F.2.1 dX11_join_51 (lv_at hl 0 rfl) ?_
  refine lv_icmp_lt (tgt := 66) F.1 F.2.1 dX11_join_53 (by decide) (fun c14 => ?_) (fun c14 => ?_)
  · replace h := zi_t c14 h
    refine lv_aload_n F.1 F.2.1 dX11_join_66 rfl (lv_at hl 3 rfl) ?_
    refine lv_iload_n F.1 F.2.1 dX11_join_67 rfl (lv_at hl 2 rfl) ?_
    replace h := zc_some h
    obtain ⟨r15, z16, hc17, h⟩ := h
    refine zr_callr (zrun_VN (As := [.int x2]) (rest := []) zn_293 zq_295 zs_X1_portOn zq_297 zq_9 hdX1_portOn (by decide) (T := TX1) (N := 13) rfl (okX1_portOn l D cy B ids hst N x3 hx3 x2  hr.2.2 hc17) F hr hx3 hl.1 rfl (by decide) dX11_join_68 rfl rfl (hroX11_join_X1_portOn RC RS) ⟨Nat.zero_le _, Nat.zero_le _⟩) F hA hr (fun H locs hw18 hr => ?_)
    clear hc17
    refine zr_ifnull (tgt := 84) F.1 F.2.1 dX11_join_71 (by decide) (fun e19 => ?_) (fun a20 e19 => ?_)
    · replace h := zo_n e19 h
      subst e19
      refine lv_aload F.1 F.2.1 dX11_join_84 (lv_at hl 4 rfl) ?_
      refine gf11_124 F hx4 hr dX11_join_86 ?_
      refine lv_bipush (v := (8 : Int32)) F.1 F.2.1 dX11_join_89 (by decide) ?_
      refine lv_icmp_lt (tgt := 104) F.1 F.2.1 dX11_join_91 (by decide) (fun c21 => ?_) (fun c21 => ?_)
      · replace h := zi_t c21 h
        obtain ⟨n1, en1⟩ : ∃ y : Nat, y = 8 * Int32.toNatClampNeg x2 + Int32.toNatClampNeg (zgI z16 5 8 x4) := ⟨_, rfl⟩
        replace h := zl_sub en1 h
        replace h := zqc_some h
        obtain ⟨⟨hfr1, hca1, hcb1⟩, h⟩ := h
        refine zc_new (k := 8) (T := TX8) (N := 13) (fs := [.null, .null, .int 0, .int 0, .int 0, .int 0, .null, .null, .null, .int 0, .null, .null, .int 0]) tyX8 tyX8_ok rfl inX8 zq_911 zq_912 zq_24 (zFx_k F hA) (zRC_of F hr) (by decide +kernel) (Nat.le_trans (Nat.le_of_ble_eq_true rfl) hca1) (Nat.le_trans (Nat.le_of_ble_eq_true rfl) hcb1) dX11_join_104 (fun q H hq => ?_)
        have hr := zRC_rep hq
        refine lv_dup F.1 F.2.1 dX11_join_107 rfl ?_
        refine lv_aload_n F.1 F.2.1 dX11_join_108 rfl (lv_at hl 3 rfl) ?_
        refine lv_aload F.1 F.2.1 dX11_join_109 (lv_at hl 4 rfl) ?_
        refine lv_aload_n F.1 F.2.1 dX11_join_111 rfl (lv_at hl 3 rfl) ?_
        refine gf11_113 F hx3 hr dX11_join_112 ?_
        refine lv_aload F.1 F.2.1 dX11_join_115 (lv_at hl 4 rfl) ?_
        refine gf11_124 F hx4 hr dX11_join_117 ?_
        refine zK_callRN (k := 5) (o := x4) (As := [.ref (B 1 x3), .ref (B 5 x4), .int (zgI z16 1 3 x3), .int (zgI z16 5 8 x4)]) (rest := [.ref q]) hAO zn_913 rfl zq_914 zq_915 zq_24 hdX8_init hx4 (okX8_init l D cy q (B 1 x3) (B 5 x4) (zgI z16 1 3 x3) (zgI z16 5 8 x4) (zfs B z16 5 x4) (zgI z16 5 0 x4) rfl) (zFx_k F hA) hq hl.1 rfl (Nat.le_of_ble_eq_true rfl) dX11_join_120 ⟨Nat.le_of_ble_eq_true rfl, Nat.le_of_ble_eq_true rfl⟩ ⟨Nat.le_trans (Nat.le_of_ble_eq_true rfl) hca1, Nat.le_trans (Nat.le_of_ble_eq_true rfl) hcb1⟩ (fun H locs cs1 hp hq => ?_)
        obtain ⟨w1, w2, w3, w4, w5, w6, w7, w8, w9, w10, w11, w12, w13, w14, w15, w16, w17, w18, w19, w20, w21, w22, w23, w24, w25, w26, w27, w28, w29, w30, w31, w32, w33, w34, w35, w36, w37, w38, w39, rfl⟩ := hp
        obtain ⟨B1, hB1, eo1, hst, hD1, h9, hr⟩ := zmkX8 hst h9 n1 (zgI z16 1 3 x3) (zgI z16 5 8 x4) (zgI z16 5 0 x4) x3 x4 hx3 hx4 hfr1 hq
        clear hq
        generalize eI1 : ids ++ znmX8 n1 = I1 at hst hD1 h9 hr
        have F0 := F
        have F := zFx_nx F hst hD1
        have hi1 : ∀ k o, (k, o) ∈ ids → (k, o) ∈ I1 := fun k o h => eI1 ▸ List.mem_append_left _ h
        have hn1 : (8, n1) ∈ I1 := eI1 ▸ List.mem_append_right _ (List.mem_of_getElem? (l := znmX8 n1) (i := 0) rfl)
        have hx := zExt_nx hx hB1 hi1
        obtain ⟨z22, ez22⟩ : ∃ y, y = zmg (znmX8 n1) (zmwX8 n1 (zgI z16 1 3 x3) (zgI z16 5 8 x4) (zgI z16 5 0 x4) x3 x4) z16 := ⟨_, rfl⟩
        rw [← ez22] at hr
        replace h := zl_sub ez22 h
        clear ez22
        replace h := zl_sub eI1.symm h
        have ha1_0 : (11, x0) ∈ I1 := hi1 _ _ hx0
        have ha1_1 : (1, x3) ∈ I1 := hi1 _ _ hx3
        have ha1_2 : (5, x4) ∈ I1 := hi1 _ _ hx4
        replace hl : lv_has ls 7 [(5, .int s0), (0, .ref (B1 11 x0)), (2, .int x2), (3, .ref (B1 1 x3)), (4, .ref (B1 5 x4))] := by
            rw [hB1 11 x0 hx0, hB1 1 x3 hx3, hB1 5 x4 hx4]; exact hl
        subst eo1
        refine lv_astore (lv' := [(6, .ref (B1 8 n1)), (5, .int s0), (0, .ref (B1 11 x0)), (2, .int x2), (3, .ref (B1 1 x3)), (4, .ref (B1 5 x4))]) F.1 F.2.1 dX11_join_123 hl (by decide) rfl (fun ls hl => ?_)
        refine lv_aload_n F.1 F.2.1 dX11_join_125 rfl (lv_at hl 4 rfl) ?_
        refine gf11_134 F ha1_1 hr dX11_join_126 ?_
        refine lv_aload_n F.1 F.2.1 dX11_join_129 rfl (lv_at hl 4 rfl) ?_
        refine gf11_113 F ha1_1 hr dX11_join_130 ?_
        refine lv_aload F.1 F.2.1 dX11_join_133 (lv_at hl 0 rfl) ?_
        replace h := zk_some h
        obtain ⟨c23, h⟩ := h
        refine zr_aast (k := 112) (v := (some n1)) (T := TX8) (N := 13) (by decide) rfl (by decide) rfl rfl F (zal_a F ha1_1 (j := 2) rfl) hr dX11_join_135 (by rw [zlen_d (by decide)]; exact c23) (zal_s hn1) (fun H locs z24 ez24 hr => ?_)
        replace h := zl_sub ez24 h
        clear ez24
        refine lv_aload_n F.1 F.2.1 dX11_join_136 rfl (lv_at hl 4 rfl) ?_
        refine lv_dup F.1 F.2.1 dX11_join_137 rfl ?_
        refine gf11_113 F ha1_1 hr dX11_join_138 ?_
        refine lv_iconst (v := (1 : Int32)) F.1 F.2.1 dX11_join_141 (by decide) ?_
        refine lv_iadd F.1 F.2.1 dX11_join_142 ?_
        refine pf11_113 F ha1_1 hr dX11_join_143 ((zgI z24 1 3 x3) + (1 : Int32)) (fun H locs z25 ez25 hr => ?_)
        replace h := zl_sub ez25 h
        clear ez25
        refine lv_aload F.1 F.2.1 dX11_join_146 (lv_at hl 5 rfl) ?_
        refine gf11_138 F ha1_2 hr dX11_join_148 ?_
        refine lv_aload F.1 F.2.1 dX11_join_151 (lv_at hl 5 rfl) ?_
        refine gf11_124 F ha1_2 hr dX11_join_153 ?_
        refine lv_aload F.1 F.2.1 dX11_join_156 (lv_at hl 0 rfl) ?_
        replace h := zk_some h
        obtain ⟨c26, h⟩ := h
        refine zr_aast (k := 123) (v := (some n1)) (T := TX8) (N := 13) (by decide) rfl (by decide) rfl rfl F (zal_a F ha1_2 (j := 7) rfl) hr dX11_join_158 (by rw [zlen_d (by decide)]; exact c26) (zal_s hn1) (fun H locs z27 ez27 hr => ?_)
        replace h := zl_sub ez27 h
        clear ez27
        refine lv_aload F.1 F.2.1 dX11_join_159 (lv_at hl 5 rfl) ?_
        refine lv_dup F.1 F.2.1 dX11_join_161 rfl ?_
        refine gf11_124 F ha1_2 hr dX11_join_162 ?_
        refine lv_iconst (v := (1 : Int32)) F.1 F.2.1 dX11_join_165 (by decide) ?_
        refine lv_iadd F.1 F.2.1 dX11_join_166 ?_
        refine pf11_124 F ha1_2 hr dX11_join_167 ((zgI z27 5 8 x4) + (1 : Int32)) (fun H locs z28 ez28 hr => ?_)
        replace h := zl_sub ez28 h
        clear ez28
        refine lv_aload_n F.1 F.2.1 dX11_join_170 rfl (lv_at hl 2 rfl) ?_
        replace h := zc_some h
        obtain ⟨r29, z30, hc31, h⟩ := h
        refine zr_callv (zrun_V (As := []) (rest := []) zq_888 zq_890 zs_X11_changeWorld zq_891 zq_1 hdX11_changeWorld (by decide) (T := TX11) (N := 21) rfl (okX11_changeWorld l D cy B1 I1 hst N x0 ha1_0 hr.2.2 hc31) F hr ha1_0 hl.1 rfl (by decide) dX11_join_171 rfl rfl (hroX11_join_X11_changeWorld RC RS) ⟨Nat.le_trans (Nat.le_of_ble_eq_true rfl) hca1, Nat.le_trans (Nat.le_of_ble_eq_true rfl) hcb1⟩) F hA hr (fun H locs hw32 hr => ?_)
        clear hc31
        refine lv_aload F.1 F.2.1 dX11_join_174 (lv_at hl 0 rfl) ?_
        refine gf11_141 F hn1 hr dX11_join_176 ?_
        obtain ⟨rfl, rfl, rfl⟩ := zret3 h
        exact zXme_i F hx hst h9 hret hlocks dX11_join_179 hr (Nat.le_trans (Nat.le_of_ble_eq_true rfl) hca1) (Nat.le_trans (Nat.le_of_ble_eq_true rfl) hcb1)
      · replace h := zi_f c21 h
        replace h := zqc_some h
        obtain ⟨⟨hca, hcb⟩, h⟩ := h
        obtain ⟨rfl, rfl, rfl⟩ := zret3 h
        exact zXtm (text := "the net has 8 stations") hlf F htab hX hlocks hl.1 (Or.inr rfl) zq_335 zq_8 (by decide +kernel) dX11_join_94 dX11_join_97 dX11_join_98 dX11_join_100 dX11_join_103 (Nat.le_of_ble_eq_true rfl) (Nat.le_of_ble_eq_true rfl) (Nat.le_trans (Nat.le_of_ble_eq_true rfl) hca) (Nat.le_trans (Nat.le_of_ble_eq_true rfl) hcb) hr (Nat.le_trans (Nat.le_of_ble_eq_true rfl) hca) (Nat.le_trans (Nat.le_of_ble_eq_true rfl) hcb)
    · replace h := zo_s e19 h
      subst e19
      replace h := zqc_some h
      obtain ⟨⟨hca, hcb⟩, h⟩ := h
      obtain ⟨rfl, rfl, rfl⟩ := zret3 h
      exact zXtm (text := "the box is on the net") hlf F htab hX hlocks hl.1 (Or.inr rfl) zq_335 zq_8 (by decide +kernel) dX11_join_74 dX11_join_77 dX11_join_78 dX11_join_80 dX11_join_83 (Nat.le_of_ble_eq_true rfl) (Nat.le_of_ble_eq_true rfl) (Nat.le_trans (Nat.le_of_ble_eq_true rfl) hca) (Nat.le_trans (Nat.le_of_ble_eq_true rfl) hcb) hr (Nat.le_trans (Nat.le_of_ble_eq_true rfl) hca) (Nat.le_trans (Nat.le_of_ble_eq_true rfl) hcb)
  · replace h := zi_f c14 h
    replace h := zqc_some h
    obtain ⟨⟨hca, hcb⟩, h⟩ := h
    obtain ⟨rfl, rfl, rfl⟩ := zret3 h
    exact zXtm (text := "the box has no port more") hlf F htab hX hlocks hl.1 (Or.inr rfl) zq_335 zq_8 (by decide +kernel) dX11_join_56 dX11_join_59 dX11_join_60 dX11_join_62 dX11_join_65 (Nat.le_of_ble_eq_true rfl) (Nat.le_of_ble_eq_true rfl) (Nat.le_trans (Nat.le_of_ble_eq_true rfl) hca) (Nat.le_trans (Nat.le_of_ble_eq_true rfl) hcb) hr (Nat.le_trans (Nat.le_of_ble_eq_true rfl) hca) (Nat.le_trans (Nat.le_of_ble_eq_true rfl) hcb)
noncomputable def fX11_join (N RC RS : Nat) (x0 : Nat) (x1 : Int32) (x2 : Int32) (ids : List (Nat × Nat)) (z : St) : Option ((Int32 ⊕ Nat) × St × List (Nat × Nat)) := zc (fX11_boxOf N x0 x1 z) fun r1 z2 => zc (fX11_netOf N x0 x2 z2) fun r5 z6 => zo r1 (zqc (1 ≤ RC ∧ 6 ≤ RS) <| some (.inr 1, z6, ids)) fun a10 => zo r5 (zqc (1 ≤ RC ∧ 6 ≤ RS) <| some (.inr 1, z6, ids)) fun a12 => if (zgI z6 1 1 a10) = 0 then (fX11_join_45 N RC RS x0 x2 a10 a12 (1 : Int32) ids z6) else (fX11_join_45 N RC RS x0 x2 a10 a12 (6 : Int32) ids z6)
set_option maxHeartbeats 16000000 in
set_option maxRecDepth 100000 in
theorem bX11_join_0 (hst : zSt B ids) (h9 : zI9 ids) {N RC RS : Nat} (F : zFx p m c cX11_join 7 s args RX11 D cy B ids A) (hA : ∀ q : Nat, s.heap.size ≤ q → A q) (hret : meth.sig.returnType = (some .int)) (hlocks : meth.locks = false) (hAO : zAO s) (hlf : l.stackTraces = false) (htab : ∀ x ∈ c.exceptionTable.toList, False) (hX : zXK A s s.heap) (x0 : Nat) (x1 : Int32) (x2 : Int32) (hx0 : (11, x0) ∈ ids) {r : (Int32 ⊕ Nat)} {z' : St} {I' : List (Nat × Nat)} {z : St} {H : Heap} {locs : List Loc} {ls : Array Slot} (hr : zRep D cy B ids A s.heap z H locs) (hl : lv_has ls 7 [(0, .ref (B 11 x0)), (1, .int x1), (2, .int x2)]) (h : fX11_join N RC RS x0 x1 x2 ids z = some (r, z', I')) : W p l e (rmX11_join RC RS) s m args below meth c H locs 0 0 (vx_MQ below (zQXm D cy r z' I' B ids A) (zXCm D cy r z' I' B ids A) args s RC RS A) (F0 m 0 ls []) := by
  unfold fX11_join at h
  have hx := zExt_rf B ids
  refine lv_aload_n F.1 F.2.1 dX11_join_0 rfl (lv_at hl 0 rfl) ?_
  refine lv_iload_n F.1 F.2.1 dX11_join_1 rfl (lv_at hl 1 rfl) ?_
  replace h := zc_some h
  obtain ⟨r1, z2, hc3, h⟩ := h
  refine zr_callr (zrun_V (As := [.int x1]) (rest := []) zq_899 zq_901 zs_X11_boxOf zq_902 zq_1 hdX11_boxOf (by decide) (T := TX11) (N := 21) rfl (okX11_boxOf l D cy B ids hst N x0 hx0 x1  hr.2.2 hc3) F hr hx0 hl.1 rfl (by decide) dX11_join_2 rfl rfl (hroX11_join_X11_boxOf RC RS) ⟨Nat.zero_le _, Nat.zero_le _⟩) F hA hr (fun H locs hw4 hr => ?_)
  clear hc3
  refine zr_astore_n (lv' := [(3, va_rf (Option.map (B 1) r1)), (0, .ref (B 11 x0)), (1, .int x1), (2, .int x2)]) F.1 F.2.1 dX11_join_5 rfl hl (by decide) rfl (fun ls hl => ?_)
  refine lv_aload_n F.1 F.2.1 dX11_join_6 rfl (lv_at hl 1 rfl) ?_
  refine lv_iload_n F.1 F.2.1 dX11_join_7 rfl (lv_at hl 3 rfl) ?_
  replace h := zc_some h
  obtain ⟨r5, z6, hc7, h⟩ := h
  refine zr_callr (zrun_V (As := [.int x2]) (rest := []) zq_903 zq_905 zs_X11_netOf zq_906 zq_1 hdX11_netOf (by decide) (T := TX11) (N := 21) rfl (okX11_netOf l D cy B ids hst N x0 hx0 x2  hr.2.2 hc7) F hr hx0 hl.1 rfl (by decide) dX11_join_8 rfl rfl (hroX11_join_X11_netOf RC RS) ⟨Nat.zero_le _, Nat.zero_le _⟩) F hA hr (fun H locs hw8 hr => ?_)
  clear hc7
  refine zr_astore (lv' := [(4, va_rf (Option.map (B 5) r5)), (3, va_rf (Option.map (B 1) r1)), (0, .ref (B 11 x0)), (1, .int x1), (2, .int x2)]) F.1 F.2.1 dX11_join_11 hl (by decide) (by simp only [List.filter, zrf_cat]; rfl) (fun ls hl => ?_)
  refine zr_aload_n F.1 F.2.1 dX11_join_13 rfl (lv_at hl 1 rfl) ?_
  refine zr_ifnull (tgt := 22) F.1 F.2.1 dX11_join_14 (by decide) (fun e9 => ?_) (fun a10 e9 => ?_)
  · replace h := zo_n e9 h
    subst e9
    replace h := zqc_some h
    obtain ⟨⟨hca, hcb⟩, h⟩ := h
    obtain ⟨rfl, rfl, rfl⟩ := zret3 h
    exact zXtm (text := "no such box or net") hlf F htab hX hlocks hl.1 (Or.inl rfl) zq_870 zq_22 (by decide +kernel) dX11_join_22 dX11_join_25 dX11_join_26 dX11_join_28 dX11_join_31 (Nat.le_of_ble_eq_true rfl) (Nat.le_of_ble_eq_true rfl) (Nat.le_trans (Nat.le_of_ble_eq_true rfl) hca) (Nat.le_trans (Nat.le_of_ble_eq_true rfl) hcb) hr (Nat.le_trans (Nat.le_of_ble_eq_true rfl) hca) (Nat.le_trans (Nat.le_of_ble_eq_true rfl) hcb)
  · replace h := zo_s e9 h
    subst e9
    refine zr_aload F.1 F.2.1 dX11_join_17 (lv_at hl 0 rfl) ?_
    refine zr_ifnonnull (tgt := 32) F.1 F.2.1 dX11_join_19 (by decide) (fun e11 => ?_) (fun a12 e11 => ?_)
    · replace h := zo_n e11 h
      subst e11
      replace h := zqc_some h
      obtain ⟨⟨hca, hcb⟩, h⟩ := h
      obtain ⟨rfl, rfl, rfl⟩ := zret3 h
      exact zXtm (text := "no such box or net") hlf F htab hX hlocks hl.1 (Or.inl rfl) zq_870 zq_22 (by decide +kernel) dX11_join_22 dX11_join_25 dX11_join_26 dX11_join_28 dX11_join_31 (Nat.le_of_ble_eq_true rfl) (Nat.le_of_ble_eq_true rfl) (Nat.le_trans (Nat.le_of_ble_eq_true rfl) hca) (Nat.le_trans (Nat.le_of_ble_eq_true rfl) hcb) hr (Nat.le_trans (Nat.le_of_ble_eq_true rfl) hca) (Nat.le_trans (Nat.le_of_ble_eq_true rfl) hcb)
    · replace h := zo_s e11 h
      subst e11
      refine lv_aload_n F.1 F.2.1 dX11_join_32 rfl (lv_at hl 1 rfl) ?_
      refine gf11_109 F (hw4 _ rfl) hr dX11_join_33 ?_
      refine lv_if_eq (tgt := 44) F.1 F.2.1 dX11_join_36 (by decide) (fun c13 => ?_) (fun c13 => ?_)
      · replace h := zi_t c13 h
        refine lv_iconst (v := (1 : Int32)) F.1 F.2.1 dX11_join_44 (by decide) ?_
        exact bX11_join_45 hst h9 F hA hret hlocks hAO hlf htab hX x0 x2 a10 a12 (1 : Int32) hx0 (hw4 _ rfl) (hw8 _ rfl) hr (lv_sub hl [2, 4, 1, 0] rfl) h
      · replace h := zi_f c13 h
        refine lv_bipush (v := (6 : Int32)) F.1 F.2.1 dX11_join_39 (by decide) ?_
        refine lv_goto (tgt := 45) F.1 F.2.1 dX11_join_41 (by decide) ?_
        exact bX11_join_45 hst h9 F hA hret hlocks hAO hlf htab hX x0 x2 a10 a12 (6 : Int32) hx0 (hw4 _ rfl) (hw8 _ rfl) hr (lv_sub hl [2, 4, 1, 0] rfl) h
end SX11_join
set_option maxRecDepth 100000 in
theorem okX11_join (l : Launch) (hlf : l.stackTraces = false) (D : va_G) (cy : Nat → ClassId) (B : Nat → Nat → Nat) (ids : List (Nat × Nat)) (hst : zSt B ids) (h9 : zI9 ids) (N RC RS : Nat) (x0 : Nat) (hx0 : (11, x0) ∈ ids) (x1 : Int32) (x2 : Int32) {z : St} {r : (Int32 ⊕ Nat)} {z' : St} {I' : List (Nat × Nat)} (hW : zWf ids z) (h : fX11_join N RC RS x0 x1 x2 ids z = some (r, z', I')) : zMXm l yX11_join (zws yX11_join cX11_join 7 (some .int)) (rmX11_join RC RS) D cy B ids [.ref (B 11 x0), .int x1, .int x2] r z z' I' :=
  zMXm_of hst hW (by decide +kernel) (Nat.le_of_ble_eq_true rfl) (fun p e s m args below meth c A ls F hA hret hlocks htab hX hAO hr hl => bX11_join_0 hst h9 F hA hret hlocks hAO hlf htab hX x0 x1 x2 hx0 hr hl h)
abbrev rmX11_box_0 (RC RS : Nat) : Room := { frames := 6, cells := RC, slots := RS, locals := 100 }
theorem hdX11_box : yX11_box.cls ≠ "java/lang/invoke/MethodHandle" ∧ yX11_box.cls ≠ "java/lang/invoke/VarHandle" ∧ (parseMethodDescriptor yX11_box.desc).map (fun d => d.parameters.length) = some 1 := by decide +kernel
theorem hroX11_box_0_X11_stir (RC RS : Nat) : rmX11_stir.frames + 1 ≤ (rmX11_box_0 RC RS).frames ∧ 8 + (1 + 11) + rmX11_stir.locals ≤ (rmX11_box_0 RC RS).locals := ⟨Nat.le_of_ble_eq_true rfl, Nat.le_of_ble_eq_true rfl⟩
section SX11_box_0
variable {p : Program} {l : Launch} {e : Env} {s : State} {m : MethodId} {args : Array Value} {below : List Frame} {meth : Method} {c : Code} {D : va_G} {cy : Nat → ClassId} {B : Nat → Nat → Nat} {ids : List (Nat × Nat)} {A : Nat → Prop}
noncomputable def fX11_box_0 (N RC RS : Nat) (x0 : Nat) (ids : List (Nat × Nat)) (z : St) : Option ((Int32 ⊕ Nat) × St × List (Nat × Nat)) := if (zgI z 11 3 x0) < (16 : Int32) then (zl (Int32.toNatClampNeg (zgI z 11 3 x0)) fun n1 => zqc (zfr (znmX1_h n1) ids ∧ 68 ≤ RC ∧ 43303 ≤ RS) <| zl (zmg (znmX1_h n1) (zmwX1_h n1 (zgI z 11 3 x0)) z) fun z2 => zl (ids ++ znmX1_h n1) fun I1 => zk (zgI z 11 3 x0) 16 <| zl (zsQ z2 140 x0 (Int32.toNatClampNeg (zgI z 11 3 x0)) (some n1)) fun z4 => zl (zsI z4 11 3 x0 ((zgI z4 11 3 x0) + (1 : Int32))) fun z5 => zc (fX11_stir N x0 z5) fun _ z7 => some (.inl ((zgI z7 11 3 x0) - (1 : Int32)), z7, I1)) else (zqc (1 ≤ RC ∧ 6 ≤ RS) <| some (.inr 2, z, ids))
set_option maxHeartbeats 16000000 in
set_option maxRecDepth 100000 in
theorem bX11_box_0_0 (hst : zSt B ids) (h9 : zI9 ids) {N RC RS : Nat} (F : zFx p m c cX11_box 2 s args RX11 D cy B ids A) (hA : ∀ q : Nat, s.heap.size ≤ q → A q) (hret : meth.sig.returnType = (some .int)) (hlocks : meth.locks = false) (hAO : zAO s) (hlf : l.stackTraces = false) (htab : ∀ x ∈ c.exceptionTable.toList, False) (hX : zXK A s s.heap) (x0 : Nat) (hx0 : (11, x0) ∈ ids) {r : (Int32 ⊕ Nat)} {z' : St} {I' : List (Nat × Nat)} {z : St} {H : Heap} {locs : List Loc} {ls : Array Slot} (hr : zRep D cy B ids A s.heap z H locs) (hl : lv_has ls 2 [(0, .ref (B 11 x0)), (1, .int (0 : Int32))]) (h : fX11_box_0 N RC RS x0 ids z = some (r, z', I')) : W p l e (rmX11_box_0 RC RS) s m args below meth c H locs 0 0 (vx_MQ below (zQXm D cy r z' I' B ids A) (zXCm D cy r z' I' B ids A) args s RC RS A) (F0 m 0 ls []) := by
  unfold fX11_box_0 at h
  have hx := zExt_rf B ids
  refine lv_aload_n F.1 F.2.1 dX11_box_0 rfl (lv_at hl 0 rfl) ?_
  refine gf11_61 F hx0 hr dX11_box_1 ?_
  refine lv_bipush (v := (16 : Int32)) F.1 F.2.1 dX11_box_4 (by decide) ?_
  refine lv_icmp_lt (tgt := 19) F.1 F.2.1 dX11_box_6 (by decide) (fun c1 => ?_) (fun c1 => ?_)
  · replace h := zi_t c1 h
    refine lv_aload_n F.1 F.2.1 dX11_box_19 rfl (lv_at hl 0 rfl) ?_
    refine gf11_17 F hx0 hr dX11_box_20 ?_
    refine lv_aload_n F.1 F.2.1 dX11_box_23 rfl (lv_at hl 0 rfl) ?_
    refine gf11_61 F hx0 hr dX11_box_24 ?_
    obtain ⟨n1, en1⟩ : ∃ y : Nat, y = Int32.toNatClampNeg (zgI z 11 3 x0) := ⟨_, rfl⟩
    replace h := zl_sub en1 h
    replace h := zqc_some h
    obtain ⟨⟨hfr1, hca1, hcb1⟩, h⟩ := h
    refine zc_new (k := 1) (T := TX1) (N := 13) (fs := [.int 0, .int 0, .null, .int 0, .null, .null, .null, .null, .null, .int 0, .null, .null, .int 0]) tyX1 tyX1_ok rfl inX1 zq_39 zq_296 zq_9 (zFx_k F hA) (zRC_of F hr) (by decide +kernel) (Nat.le_trans (Nat.le_of_ble_eq_true rfl) hca1) (Nat.le_trans (Nat.le_of_ble_eq_true rfl) hcb1) dX11_box_27 (fun q H hq => ?_)
    have hr := zRC_rep hq
    refine lv_dup F.1 F.2.1 dX11_box_30 rfl ?_
    refine lv_aload_n F.1 F.2.1 dX11_box_31 rfl (lv_at hl 0 rfl) ?_
    refine gf11_61 F hx0 hr dX11_box_32 ?_
    refine lv_iload_n F.1 F.2.1 dX11_box_35 rfl (lv_at hl 1 rfl) ?_
    refine zK_callN (cs := []) (As := [.int (zgI z 11 3 x0), .int (0 : Int32)]) (rest := [.ref q, .int (zgI z 11 3 x0), .ref (B 140 x0)]) hAO zn_401 rfl zq_402 zq_403 zq_9 hdX1_init (okX1_init_h l D cy q (zgI z 11 3 x0)) (zFx_k F hA) hq hl.1 rfl (Nat.le_of_ble_eq_true rfl) dX11_box_36 ⟨Nat.le_of_ble_eq_true rfl, Nat.le_of_ble_eq_true rfl⟩ ⟨Nat.le_trans (Nat.le_of_ble_eq_true rfl) hca1, Nat.le_trans (Nat.le_of_ble_eq_true rfl) hcb1⟩ (fun H locs cs1 hp hq => ?_)
    obtain ⟨w1, w2, w3, w4, w5, w6, w7, w8, w9, w10, w11, w12, w13, w14, w15, w16, w17, w18, w19, w20, w21, w22, w23, w24, w25, w26, w27, w28, w29, w30, w31, w32, w33, w34, w35, w36, w37, w38, w39, w40, w41, w42, w43, w44, w45, w46, w47, w48, w49, w50, w51, w52, w53, w54, w55, w56, w57, w58, w59, w60, w61, w62, w63, rfl⟩ := hp
    obtain ⟨B1, hB1, eo1, hst, hD1, h9, hr⟩ := zmkX1_h hst h9 n1 (zgI z 11 3 x0) hfr1 hq
    clear hq
    generalize eI1 : ids ++ znmX1_h n1 = I1 at hst hD1 h9 hr
    have F0 := F
    have F := zFx_nx F hst hD1
    have hi1 : ∀ k o, (k, o) ∈ ids → (k, o) ∈ I1 := fun k o h => eI1 ▸ List.mem_append_left _ h
    have hn1 : (1, n1) ∈ I1 := eI1 ▸ List.mem_append_right _ (List.mem_of_getElem? (l := znmX1_h n1) (i := 0) rfl)
    have hx := zExt_nx hx hB1 hi1
    obtain ⟨z2, ez2⟩ : ∃ y, y = zmg (znmX1_h n1) (zmwX1_h n1 (zgI z 11 3 x0)) z := ⟨_, rfl⟩
    rw [← ez2] at hr
    replace h := zl_sub ez2 h
    clear ez2
    replace h := zl_sub eI1.symm h
    have ha1_0 : (11, x0) ∈ I1 := hi1 _ _ hx0
    have ha1_1 : (140, x0) ∈ I1 := hi1 _ _ (zal_a F0 hx0 (j := 2) rfl)
    replace hl : lv_has ls 2 [(0, .ref (B1 11 x0)), (1, .int (0 : Int32))] := by
            rw [hB1 11 x0 hx0]; exact hl
    rw [← hB1 140 x0 (zal_a F0 hx0 (j := 2) rfl)]
    subst eo1
    replace h := zk_some h
    obtain ⟨c3, h⟩ := h
    refine zr_aast (k := 140) (v := (some n1)) (T := TX1) (N := 13) (by decide) rfl (by decide) rfl rfl F ha1_1 hr dX11_box_39 (by rw [zlen_d (by decide)]; exact c3) (zal_s hn1) (fun H locs z4 ez4 hr => ?_)
    replace h := zl_sub ez4 h
    clear ez4
    refine lv_aload_n F.1 F.2.1 dX11_box_40 rfl (lv_at hl 0 rfl) ?_
    refine lv_dup F.1 F.2.1 dX11_box_41 rfl ?_
    refine gf11_61 F ha1_0 hr dX11_box_42 ?_
    refine lv_iconst (v := (1 : Int32)) F.1 F.2.1 dX11_box_45 (by decide) ?_
    refine lv_iadd F.1 F.2.1 dX11_box_46 ?_
    refine pf11_61 F ha1_0 hr dX11_box_47 ((zgI z4 11 3 x0) + (1 : Int32)) (fun H locs z5 ez5 hr => ?_)
    replace h := zl_sub ez5 h
    clear ez5
    refine lv_aload_n F.1 F.2.1 dX11_box_50 rfl (lv_at hl 0 rfl) ?_
    replace h := zc_some h
    obtain ⟨r6, z7, hc8, h⟩ := h
    refine zr_callv (zrun_V (As := []) (rest := []) zq_858 zq_860 zs_X11_stir zq_861 zq_1 hdX11_stir (by decide) (T := TX11) (N := 21) rfl (okX11_stir l D cy B1 I1 hst N x0 ha1_0 hr.2.2 hc8) F hr ha1_0 hl.1 rfl (by decide) dX11_box_51 rfl rfl (hroX11_box_0_X11_stir RC RS) ⟨Nat.le_trans (Nat.le_of_ble_eq_true rfl) hca1, Nat.le_trans (Nat.le_of_ble_eq_true rfl) hcb1⟩) F hA hr (fun H locs hw9 hr => ?_)
    clear hc8
    refine lv_aload_n F.1 F.2.1 dX11_box_54 rfl (lv_at hl 0 rfl) ?_
    refine gf11_61 F ha1_0 hr dX11_box_55 ?_
    refine lv_iconst (v := (1 : Int32)) F.1 F.2.1 dX11_box_58 (by decide) ?_
    refine lv_isub F.1 F.2.1 dX11_box_59 ?_
    obtain ⟨rfl, rfl, rfl⟩ := zret3 h
    exact zXme_i F hx hst h9 hret hlocks dX11_box_60 hr (Nat.le_trans (Nat.le_of_ble_eq_true rfl) hca1) (Nat.le_trans (Nat.le_of_ble_eq_true rfl) hcb1)
  · replace h := zi_f c1 h
    replace h := zqc_some h
    obtain ⟨⟨hca, hcb⟩, h⟩ := h
    obtain ⟨rfl, rfl, rfl⟩ := zret3 h
    exact zXtm (text := "there are 16 boxes") hlf F htab hX hlocks hl.1 (Or.inr rfl) zq_335 zq_8 (by decide +kernel) dX11_box_9 dX11_box_12 dX11_box_13 dX11_box_15 dX11_box_18 (Nat.le_of_ble_eq_true rfl) (Nat.le_of_ble_eq_true rfl) (Nat.le_trans (Nat.le_of_ble_eq_true rfl) hca) (Nat.le_trans (Nat.le_of_ble_eq_true rfl) hcb) hr (Nat.le_trans (Nat.le_of_ble_eq_true rfl) hca) (Nat.le_trans (Nat.le_of_ble_eq_true rfl) hcb)
end SX11_box_0
set_option maxRecDepth 100000 in
theorem okX11_box_0 (l : Launch) (hlf : l.stackTraces = false) (D : va_G) (cy : Nat → ClassId) (B : Nat → Nat → Nat) (ids : List (Nat × Nat)) (hst : zSt B ids) (h9 : zI9 ids) (N RC RS : Nat) (x0 : Nat) (hx0 : (11, x0) ∈ ids) {z : St} {r : (Int32 ⊕ Nat)} {z' : St} {I' : List (Nat × Nat)} (hW : zWf ids z) (h : fX11_box_0 N RC RS x0 ids z = some (r, z', I')) : zMXm l yX11_box (zws yX11_box cX11_box 2 (some .int)) (rmX11_box_0 RC RS) D cy B ids [.ref (B 11 x0), .int (0 : Int32)] r z z' I' :=
  zMXm_of hst hW (by decide +kernel) (Nat.le_of_ble_eq_true rfl) (fun p e s m args below meth c A ls F hA hret hlocks htab hX hAO hr hl => bX11_box_0_0 hst h9 F hA hret hlocks hAO hlf htab hX x0 hx0 hr hl h)
abbrev rmX11_box_1 (RC RS : Nat) : Room := { frames := 6, cells := RC, slots := RS, locals := 100 }
theorem hroX11_box_1_X11_stir (RC RS : Nat) : rmX11_stir.frames + 1 ≤ (rmX11_box_1 RC RS).frames ∧ 8 + (1 + 11) + rmX11_stir.locals ≤ (rmX11_box_1 RC RS).locals := ⟨Nat.le_of_ble_eq_true rfl, Nat.le_of_ble_eq_true rfl⟩
section SX11_box_1
variable {p : Program} {l : Launch} {e : Env} {s : State} {m : MethodId} {args : Array Value} {below : List Frame} {meth : Method} {c : Code} {D : va_G} {cy : Nat → ClassId} {B : Nat → Nat → Nat} {ids : List (Nat × Nat)} {A : Nat → Prop}
noncomputable def fX11_box_1 (N RC RS : Nat) (x0 : Nat) (ids : List (Nat × Nat)) (z : St) : Option ((Int32 ⊕ Nat) × St × List (Nat × Nat)) := if (zgI z 11 3 x0) < (16 : Int32) then (zl (Int32.toNatClampNeg (zgI z 11 3 x0)) fun n1 => zqc (zfr (znmX1_r n1) ids ∧ 152 ≤ RC ∧ 8708 ≤ RS) <| zl (zmg (znmX1_r n1) (zmwX1_r n1 (zgI z 11 3 x0)) z) fun z2 => zl (ids ++ znmX1_r n1) fun I1 => zk (zgI z 11 3 x0) 16 <| zl (zsQ z2 140 x0 (Int32.toNatClampNeg (zgI z 11 3 x0)) (some n1)) fun z4 => zl (zsI z4 11 3 x0 ((zgI z4 11 3 x0) + (1 : Int32))) fun z5 => zc (fX11_stir N x0 z5) fun _ z7 => some (.inl ((zgI z7 11 3 x0) - (1 : Int32)), z7, I1)) else (zqc (1 ≤ RC ∧ 6 ≤ RS) <| some (.inr 2, z, ids))
set_option maxHeartbeats 16000000 in
set_option maxRecDepth 100000 in
theorem bX11_box_1_0 (hst : zSt B ids) (h9 : zI9 ids) {N RC RS : Nat} (F : zFx p m c cX11_box 2 s args RX11 D cy B ids A) (hA : ∀ q : Nat, s.heap.size ≤ q → A q) (hret : meth.sig.returnType = (some .int)) (hlocks : meth.locks = false) (hAO : zAO s) (hlf : l.stackTraces = false) (htab : ∀ x ∈ c.exceptionTable.toList, False) (hX : zXK A s s.heap) (x0 : Nat) (hx0 : (11, x0) ∈ ids) {r : (Int32 ⊕ Nat)} {z' : St} {I' : List (Nat × Nat)} {z : St} {H : Heap} {locs : List Loc} {ls : Array Slot} (hr : zRep D cy B ids A s.heap z H locs) (hl : lv_has ls 2 [(0, .ref (B 11 x0)), (1, .int (1 : Int32))]) (h : fX11_box_1 N RC RS x0 ids z = some (r, z', I')) : W p l e (rmX11_box_1 RC RS) s m args below meth c H locs 0 0 (vx_MQ below (zQXm D cy r z' I' B ids A) (zXCm D cy r z' I' B ids A) args s RC RS A) (F0 m 0 ls []) := by
  unfold fX11_box_1 at h
  have hx := zExt_rf B ids
  refine lv_aload_n F.1 F.2.1 dX11_box_0 rfl (lv_at hl 0 rfl) ?_
  refine gf11_61 F hx0 hr dX11_box_1 ?_
  refine lv_bipush (v := (16 : Int32)) F.1 F.2.1 dX11_box_4 (by decide) ?_
  refine lv_icmp_lt (tgt := 19) F.1 F.2.1 dX11_box_6 (by decide) (fun c1 => ?_) (fun c1 => ?_)
  · replace h := zi_t c1 h
    refine lv_aload_n F.1 F.2.1 dX11_box_19 rfl (lv_at hl 0 rfl) ?_
    refine gf11_17 F hx0 hr dX11_box_20 ?_
    refine lv_aload_n F.1 F.2.1 dX11_box_23 rfl (lv_at hl 0 rfl) ?_
    refine gf11_61 F hx0 hr dX11_box_24 ?_
    obtain ⟨n1, en1⟩ : ∃ y : Nat, y = Int32.toNatClampNeg (zgI z 11 3 x0) := ⟨_, rfl⟩
    replace h := zl_sub en1 h
    replace h := zqc_some h
    obtain ⟨⟨hfr1, hca1, hcb1⟩, h⟩ := h
    refine zc_new (k := 1) (T := TX1) (N := 13) (fs := [.int 0, .int 0, .null, .int 0, .null, .null, .null, .null, .null, .int 0, .null, .null, .int 0]) tyX1 tyX1_ok rfl inX1 zq_39 zq_296 zq_9 (zFx_k F hA) (zRC_of F hr) (by decide +kernel) (Nat.le_trans (Nat.le_of_ble_eq_true rfl) hca1) (Nat.le_trans (Nat.le_of_ble_eq_true rfl) hcb1) dX11_box_27 (fun q H hq => ?_)
    have hr := zRC_rep hq
    refine lv_dup F.1 F.2.1 dX11_box_30 rfl ?_
    refine lv_aload_n F.1 F.2.1 dX11_box_31 rfl (lv_at hl 0 rfl) ?_
    refine gf11_61 F hx0 hr dX11_box_32 ?_
    refine lv_iload_n F.1 F.2.1 dX11_box_35 rfl (lv_at hl 1 rfl) ?_
    refine zK_callN (cs := []) (As := [.int (zgI z 11 3 x0), .int (1 : Int32)]) (rest := [.ref q, .int (zgI z 11 3 x0), .ref (B 140 x0)]) hAO zn_401 rfl zq_402 zq_403 zq_9 hdX1_init (okX1_init_r l D cy q (zgI z 11 3 x0)) (zFx_k F hA) hq hl.1 rfl (Nat.le_of_ble_eq_true rfl) dX11_box_36 ⟨Nat.le_of_ble_eq_true rfl, Nat.le_of_ble_eq_true rfl⟩ ⟨Nat.le_trans (Nat.le_of_ble_eq_true rfl) hca1, Nat.le_trans (Nat.le_of_ble_eq_true rfl) hcb1⟩ (fun H locs cs1 hp hq => ?_)
    obtain ⟨w1, w2, w3, w4, w5, w6, w7, w8, w9, w10, w11, w12, w13, w14, w15, w16, w17, w18, w19, w20, w21, w22, w23, w24, w25, w26, w27, w28, w29, w30, w31, w32, w33, w34, w35, rfl⟩ := hp
    obtain ⟨B1, hB1, eo1, hst, hD1, h9, hr⟩ := zmkX1_r hst h9 n1 (zgI z 11 3 x0) hfr1 hq
    clear hq
    generalize eI1 : ids ++ znmX1_r n1 = I1 at hst hD1 h9 hr
    have F0 := F
    have F := zFx_nx F hst hD1
    have hi1 : ∀ k o, (k, o) ∈ ids → (k, o) ∈ I1 := fun k o h => eI1 ▸ List.mem_append_left _ h
    have hn1 : (1, n1) ∈ I1 := eI1 ▸ List.mem_append_right _ (List.mem_of_getElem? (l := znmX1_r n1) (i := 0) rfl)
    have hx := zExt_nx hx hB1 hi1
    obtain ⟨z2, ez2⟩ : ∃ y, y = zmg (znmX1_r n1) (zmwX1_r n1 (zgI z 11 3 x0)) z := ⟨_, rfl⟩
    rw [← ez2] at hr
    replace h := zl_sub ez2 h
    clear ez2
    replace h := zl_sub eI1.symm h
    have ha1_0 : (11, x0) ∈ I1 := hi1 _ _ hx0
    have ha1_1 : (140, x0) ∈ I1 := hi1 _ _ (zal_a F0 hx0 (j := 2) rfl)
    replace hl : lv_has ls 2 [(0, .ref (B1 11 x0)), (1, .int (1 : Int32))] := by
            rw [hB1 11 x0 hx0]; exact hl
    rw [← hB1 140 x0 (zal_a F0 hx0 (j := 2) rfl)]
    subst eo1
    replace h := zk_some h
    obtain ⟨c3, h⟩ := h
    refine zr_aast (k := 140) (v := (some n1)) (T := TX1) (N := 13) (by decide) rfl (by decide) rfl rfl F ha1_1 hr dX11_box_39 (by rw [zlen_d (by decide)]; exact c3) (zal_s hn1) (fun H locs z4 ez4 hr => ?_)
    replace h := zl_sub ez4 h
    clear ez4
    refine lv_aload_n F.1 F.2.1 dX11_box_40 rfl (lv_at hl 0 rfl) ?_
    refine lv_dup F.1 F.2.1 dX11_box_41 rfl ?_
    refine gf11_61 F ha1_0 hr dX11_box_42 ?_
    refine lv_iconst (v := (1 : Int32)) F.1 F.2.1 dX11_box_45 (by decide) ?_
    refine lv_iadd F.1 F.2.1 dX11_box_46 ?_
    refine pf11_61 F ha1_0 hr dX11_box_47 ((zgI z4 11 3 x0) + (1 : Int32)) (fun H locs z5 ez5 hr => ?_)
    replace h := zl_sub ez5 h
    clear ez5
    refine lv_aload_n F.1 F.2.1 dX11_box_50 rfl (lv_at hl 0 rfl) ?_
    replace h := zc_some h
    obtain ⟨r6, z7, hc8, h⟩ := h
    refine zr_callv (zrun_V (As := []) (rest := []) zq_858 zq_860 zs_X11_stir zq_861 zq_1 hdX11_stir (by decide) (T := TX11) (N := 21) rfl (okX11_stir l D cy B1 I1 hst N x0 ha1_0 hr.2.2 hc8) F hr ha1_0 hl.1 rfl (by decide) dX11_box_51 rfl rfl (hroX11_box_1_X11_stir RC RS) ⟨Nat.le_trans (Nat.le_of_ble_eq_true rfl) hca1, Nat.le_trans (Nat.le_of_ble_eq_true rfl) hcb1⟩) F hA hr (fun H locs hw9 hr => ?_)
    clear hc8
    refine lv_aload_n F.1 F.2.1 dX11_box_54 rfl (lv_at hl 0 rfl) ?_
    refine gf11_61 F ha1_0 hr dX11_box_55 ?_
    refine lv_iconst (v := (1 : Int32)) F.1 F.2.1 dX11_box_58 (by decide) ?_
    refine lv_isub F.1 F.2.1 dX11_box_59 ?_
    obtain ⟨rfl, rfl, rfl⟩ := zret3 h
    exact zXme_i F hx hst h9 hret hlocks dX11_box_60 hr (Nat.le_trans (Nat.le_of_ble_eq_true rfl) hca1) (Nat.le_trans (Nat.le_of_ble_eq_true rfl) hcb1)
  · replace h := zi_f c1 h
    replace h := zqc_some h
    obtain ⟨⟨hca, hcb⟩, h⟩ := h
    obtain ⟨rfl, rfl, rfl⟩ := zret3 h
    exact zXtm (text := "there are 16 boxes") hlf F htab hX hlocks hl.1 (Or.inr rfl) zq_335 zq_8 (by decide +kernel) dX11_box_9 dX11_box_12 dX11_box_13 dX11_box_15 dX11_box_18 (Nat.le_of_ble_eq_true rfl) (Nat.le_of_ble_eq_true rfl) (Nat.le_trans (Nat.le_of_ble_eq_true rfl) hca) (Nat.le_trans (Nat.le_of_ble_eq_true rfl) hcb) hr (Nat.le_trans (Nat.le_of_ble_eq_true rfl) hca) (Nat.le_trans (Nat.le_of_ble_eq_true rfl) hcb)
end SX11_box_1
set_option maxRecDepth 100000 in
theorem okX11_box_1 (l : Launch) (hlf : l.stackTraces = false) (D : va_G) (cy : Nat → ClassId) (B : Nat → Nat → Nat) (ids : List (Nat × Nat)) (hst : zSt B ids) (h9 : zI9 ids) (N RC RS : Nat) (x0 : Nat) (hx0 : (11, x0) ∈ ids) {z : St} {r : (Int32 ⊕ Nat)} {z' : St} {I' : List (Nat × Nat)} (hW : zWf ids z) (h : fX11_box_1 N RC RS x0 ids z = some (r, z', I')) : zMXm l yX11_box (zws yX11_box cX11_box 2 (some .int)) (rmX11_box_1 RC RS) D cy B ids [.ref (B 11 x0), .int (1 : Int32)] r z z' I' :=
  zMXm_of hst hW (by decide +kernel) (Nat.le_of_ble_eq_true rfl) (fun p e s m args below meth c A ls F hA hret hlocks htab hX hAO hr hl => bX11_box_1_0 hst h9 F hA hret hlocks hAO hlf htab hX x0 hx0 hr hl h)
