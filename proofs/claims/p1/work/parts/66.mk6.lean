abbrev rmX11_init : Room := { frames := 2, cells := 1110, slots := 776596, locals := 40 }
noncomputable def fX11_L : Nat → Nat → List (Nat × Nat) → St → Option (St × List (Nat × Nat))
  | 0, _, ids, z => some (z, ids)
  | n + 1, k, ids, z => zl (2 + k) fun n1 => zqc (zfr (znmX7 n1) ids) <| zl (zmg (znmX7 n1) (zmwX7 n1 ) z) fun z1 => zl (ids ++ znmX7 n1) fun I1 => zl (zgR z1 11 11 0) fun y2 => zl (zsR z1 7 14 n1 y2) fun z3 => zl (zsR z3 11 11 0 (some n1)) fun z4 => fX11_L n (k + 1) I1 z4
noncomputable def fX11_init : Option (St × List (Nat × Nat)) := zl (zmg (znmX11 0) (zmwX11 0) zz0) fun z0 => zl ([] ++ znmX11 0) fun I0 => zl (0) fun n1 => zqc (zfr (znmX5 n1) I0) <| zl (zmg (znmX5 n1) (zmwX5 n1 (0 : Int32)) z0) fun z1 => zl (I0 ++ znmX5 n1) fun I1 => zl (zsQ z1 139 0 (Int32.toNatClampNeg (0 : Int32)) (some n1)) fun z3 => zl (1) fun n2 => zqc (zfr (znmX5 n2) I1) <| zl (zmg (znmX5 n2) (zmwX5 n2 (1 : Int32)) z3) fun z4 => zl (I1 ++ znmX5 n2) fun I2 => zl (zsQ z4 139 0 (Int32.toNatClampNeg (1 : Int32)) (some n2)) fun z6 => zl (2) fun n3 => zqc (zfr (znmX5 n3) I2) <| zl (zmg (znmX5 n3) (zmwX5 n3 (2 : Int32)) z6) fun z7 => zl (I2 ++ znmX5 n3) fun I3 => zl (zsQ z7 139 0 (Int32.toNatClampNeg (2 : Int32)) (some n3)) fun z9 => zl (3) fun n4 => zqc (zfr (znmX5 n4) I3) <| zl (zmg (znmX5 n4) (zmwX5 n4 (3 : Int32)) z9) fun z10 => zl (I3 ++ znmX5 n4) fun I4 => zl (zsQ z10 139 0 (Int32.toNatClampNeg (3 : Int32)) (some n4)) fun z12 => zl (4) fun n5 => zqc (zfr (znmX5 n5) I4) <| zl (zmg (znmX5 n5) (zmwX5 n5 (4 : Int32)) z12) fun z13 => zl (I4 ++ znmX5 n5) fun I5 => zl (zsQ z13 139 0 (Int32.toNatClampNeg (4 : Int32)) (some n5)) fun z15 => zl (5) fun n6 => zqc (zfr (znmX5 n6) I5) <| zl (zmg (znmX5 n6) (zmwX5 n6 (5 : Int32)) z15) fun z16 => zl (I5 ++ znmX5 n6) fun I6 => zl (zsQ z16 139 0 (Int32.toNatClampNeg (5 : Int32)) (some n6)) fun z18 => zl (6) fun n7 => zqc (zfr (znmX5 n7) I6) <| zl (zmg (znmX5 n7) (zmwX5 n7 (6 : Int32)) z18) fun z19 => zl (I6 ++ znmX5 n7) fun I7 => zl (zsQ z19 139 0 (Int32.toNatClampNeg (6 : Int32)) (some n7)) fun z21 => zl (7) fun n8 => zqc (zfr (znmX5 n8) I7) <| zl (zmg (znmX5 n8) (zmwX5 n8 (7 : Int32)) z21) fun z22 => zl (I7 ++ znmX5 n8) fun I8 => zl (zsQ z22 139 0 (Int32.toNatClampNeg (7 : Int32)) (some n8)) fun z24 => zl (8) fun n9 => zqc (zfr (znmX5 n9) I8) <| zl (zmg (znmX5 n9) (zmwX5 n9 (8 : Int32)) z24) fun z25 => zl (I8 ++ znmX5 n9) fun I9 => zl (zsQ z25 139 0 (Int32.toNatClampNeg (8 : Int32)) (some n9)) fun z27 => zl (9) fun n10 => zqc (zfr (znmX5 n10) I9) <| zl (zmg (znmX5 n10) (zmwX5 n10 (9 : Int32)) z27) fun z28 => zl (I9 ++ znmX5 n10) fun I10 => zl (zsQ z28 139 0 (Int32.toNatClampNeg (9 : Int32)) (some n10)) fun z30 => zl (10) fun n11 => zqc (zfr (znmX5 n11) I10) <| zl (zmg (znmX5 n11) (zmwX5 n11 (10 : Int32)) z30) fun z31 => zl (I10 ++ znmX5 n11) fun I11 => zl (zsQ z31 139 0 (Int32.toNatClampNeg (10 : Int32)) (some n11)) fun z33 => zl (11) fun n12 => zqc (zfr (znmX5 n12) I11) <| zl (zmg (znmX5 n12) (zmwX5 n12 (11 : Int32)) z33) fun z34 => zl (I11 ++ znmX5 n12) fun I12 => zl (zsQ z34 139 0 (Int32.toNatClampNeg (11 : Int32)) (some n12)) fun z36 => zl (12) fun n13 => zqc (zfr (znmX5 n13) I12) <| zl (zmg (znmX5 n13) (zmwX5 n13 (12 : Int32)) z36) fun z37 => zl (I12 ++ znmX5 n13) fun I13 => zl (zsQ z37 139 0 (Int32.toNatClampNeg (12 : Int32)) (some n13)) fun z39 => zl (13) fun n14 => zqc (zfr (znmX5 n14) I13) <| zl (zmg (znmX5 n14) (zmwX5 n14 (13 : Int32)) z39) fun z40 => zl (I13 ++ znmX5 n14) fun I14 => zl (zsQ z40 139 0 (Int32.toNatClampNeg (13 : Int32)) (some n14)) fun z42 => zl (14) fun n15 => zqc (zfr (znmX5 n15) I14) <| zl (zmg (znmX5 n15) (zmwX5 n15 (14 : Int32)) z42) fun z43 => zl (I14 ++ znmX5 n15) fun I15 => zl (zsQ z43 139 0 (Int32.toNatClampNeg (14 : Int32)) (some n15)) fun z45 => zl (15) fun n16 => zqc (zfr (znmX5 n16) I15) <| zl (zmg (znmX5 n16) (zmwX5 n16 (15 : Int32)) z45) fun z46 => zl (I15 ++ znmX5 n16) fun I16 => zl (zsQ z46 139 0 (Int32.toNatClampNeg (15 : Int32)) (some n16)) fun z48 => zl (16) fun n17 => zqc (zfr (znmX5 n17) I16) <| zl (zmg (znmX5 n17) (zmwX5 n17 (16 : Int32)) z48) fun z49 => zl (I16 ++ znmX5 n17) fun I17 => zl (zsQ z49 139 0 (Int32.toNatClampNeg (16 : Int32)) (some n17)) fun z51 => zl (17) fun n18 => zqc (zfr (znmX5 n18) I17) <| zl (zmg (znmX5 n18) (zmwX5 n18 (17 : Int32)) z51) fun z52 => zl (I17 ++ znmX5 n18) fun I18 => zl (zsQ z52 139 0 (Int32.toNatClampNeg (17 : Int32)) (some n18)) fun z54 => zl (18) fun n19 => zqc (zfr (znmX5 n19) I18) <| zl (zmg (znmX5 n19) (zmwX5 n19 (18 : Int32)) z54) fun z55 => zl (I18 ++ znmX5 n19) fun I19 => zl (zsQ z55 139 0 (Int32.toNatClampNeg (18 : Int32)) (some n19)) fun z57 => zl (19) fun n20 => zqc (zfr (znmX5 n20) I19) <| zl (zmg (znmX5 n20) (zmwX5 n20 (19 : Int32)) z57) fun z58 => zl (I19 ++ znmX5 n20) fun I20 => zl (zsQ z58 139 0 (Int32.toNatClampNeg (19 : Int32)) (some n20)) fun z60 => zl (20) fun n21 => zqc (zfr (znmX5 n21) I20) <| zl (zmg (znmX5 n21) (zmwX5 n21 (20 : Int32)) z60) fun z61 => zl (I20 ++ znmX5 n21) fun I21 => zl (zsQ z61 139 0 (Int32.toNatClampNeg (20 : Int32)) (some n21)) fun z63 => zl (21) fun n22 => zqc (zfr (znmX5 n22) I21) <| zl (zmg (znmX5 n22) (zmwX5 n22 (21 : Int32)) z63) fun z64 => zl (I21 ++ znmX5 n22) fun I22 => zl (zsQ z64 139 0 (Int32.toNatClampNeg (21 : Int32)) (some n22)) fun z66 => zl (22) fun n23 => zqc (zfr (znmX5 n23) I22) <| zl (zmg (znmX5 n23) (zmwX5 n23 (22 : Int32)) z66) fun z67 => zl (I22 ++ znmX5 n23) fun I23 => zl (zsQ z67 139 0 (Int32.toNatClampNeg (22 : Int32)) (some n23)) fun z69 => zl (23) fun n24 => zqc (zfr (znmX5 n24) I23) <| zl (zmg (znmX5 n24) (zmwX5 n24 (23 : Int32)) z69) fun z70 => zl (I23 ++ znmX5 n24) fun I24 => zl (zsQ z70 139 0 (Int32.toNatClampNeg (23 : Int32)) (some n24)) fun z72 => fX11_L 513 0 I24 z72
theorem zgt512 {k : Nat} (h : k < 513) : ¬ (512 : Int32) < Int32.ofNat k := by
  intro hc
  have h1 := Int32.lt_iff_toInt_lt.mp hc
  rw [Int32.toInt_ofNat_of_lt (by omega)] at h1
  have h0 : (512 : Int32).toInt = 512 := rfl
  omega
def zP11 (cy : Nat → ClassId) (h0 : Nat) (z' : St) (I' : List (Nat × Nat)) : va_W → Prop := fun cs => ∃ B1 : Nat → Nat → Nat, B1 11 0 = h0 ∧ zSt B1 I' ∧ zI9 I' ∧ zWf I' z' ∧ (11, 0) ∈ I' ∧ cs = zw cy B1 I' z'
theorem zRep_c {D : va_G} {cy : Nat → ClassId} {B : Nat → Nat → Nat} {ids : List (Nat × Nat)} {A : Nat → Prop} {H0 : Heap} {z : St} {H : Heap} {locs : List Loc} (hr : zRep D cy B ids A H0 z H locs) (hD : ∀ z2, va_D A (zw cy B ids z2)) : zRC D cy (fun _ _ => 0) [] A H0 zz0 (zw cy B ids z) H locs := ⟨hr.1, hD z, hr.2.1, zWf_0⟩
section SX11_init
variable {p : Program} {l : Launch} {e : Env} {s : State} {m : MethodId} {args : Array Value} {below : List Frame} {meth : Method} {c : Code} {D : va_G} {cy : Nat → ClassId} {A : Nat → Prop} {h0 : Nat} {z' : St} {I' : List (Nat × Nat)}
set_option maxHeartbeats 4000000 in
set_option maxRecDepth 100000 in
theorem lX11 (hA : ∀ q : Nat, s.heap.size ≤ q → A q) (hAO : zAO s) (hret : meth.sig.returnType = none) (hlocks : meth.locks = false) : ∀ (n k : Nat) {B : Nat → Nat → Nat} {ids : List (Nat × Nat)} (_ : zSt B ids) (_ : zI9 ids) (_ : zFx p m c cX11_init 3 s args RX11 D cy B ids A) (_ : (11, 0) ∈ ids) (_ : n + k = 513) {z : St} {H : Heap} {locs : List Loc} {ls : Array Slot} (_ : zRep D cy B ids A s.heap z H locs) (_ : lv_has ls 3 [(0, .ref (B 11 0)), (1, .int (Int32.ofNat k))]) (_ : B 11 0 = h0) (_ : fX11_L n k ids z = some (z', I')),
    W p l e rmX11_init s m args below meth c H locs (84 + 2 * k) (7096 + 1500 * k) (MQ below (zKQ D (zP11 cy h0 z' I') A) args s 1110 776596 A) (F0 m 129 ls []) := by
  intro n
  induction n with
  | zero =>
    intro k B ids hst h9 F hm hnk z H locs ls hr hl hcB h
    have hk : k = 513 := by omega
    subst hk
    have h := Option.some.inj h
    obtain ⟨rfl, rfl⟩ : z = z' ∧ ids = I' := ⟨congrArg Prod.fst h, congrArg Prod.snd h⟩
    refine lv_iload_n F.1 F.2.1 dX11_init_129 rfl (lv_at hl 1 rfl) ?_
    refine lv_sipush (v := (512 : Int32)) F.1 F.2.1 dX11_init_130 (by decide) ?_
    refine lv_icmp_gt (tgt := 163) F.1 F.2.1 dX11_init_133 (by decide) (fun _ => ?_) (fun hc => absurd (show (512 : Int32) < Int32.ofNat 513 from by decide) hc)
    exact zK_ret (zFx_k F hA) hret hlocks dX11_init_163 (zRep_c hr (F.2.2.2.2.2.2.2.2.2)) ⟨B, hcB, hst, h9, hr.2.2, hm, rfl⟩ (by omega) (by omega)
  | succ n ih =>
    intro k B ids hst h9 F hm hnk z H locs ls hr hl hcB h
    have hk : k < 513 := by omega
    have hof := zof_lt (N := 513) hk (by decide)
    unfold fX11_L at h
    have hx := zExt_rf B ids
    refine lv_iload_n F.1 F.2.1 dX11_init_129 rfl (lv_at hl 1 rfl) ?_
    refine lv_sipush (v := (512 : Int32)) F.1 F.2.1 dX11_init_130 (by decide) ?_
    refine lv_icmp_gt (tgt := 163) F.1 F.2.1 dX11_init_133 (by decide) (fun hc => absurd hc (zgt512 hk)) (fun _ => ?_)
    obtain ⟨n1, en1⟩ : ∃ y : Nat, y = 2 + k := ⟨_, rfl⟩
    replace h := zl_sub en1 h
    replace h := zqc_some h
    obtain ⟨hfr1, h⟩ := h
    refine zc_new (k := 7) (T := TX7) (N := 20) (fs := [.int 0, .int 0, .int 0, .int 0, .int 0, .int 0, .int 0, .int 0, .null, .int 0, .int 0, .int 0, .int 0, .int 0, .null, .int 0, .int 0, .int 0, .int 0, .int 0]) tyX7 tyX7_ok rfl inX7 zq_41 zq_43 zq_2 (zFx_k F hA) (zRC_of F hr) (by decide +kernel) (by show 84 + 2 * k + 1 ≤ 1110; omega) (by show 7096 + 1500 * k + 20 ≤ 776596; omega) dX11_init_136 (fun q H hq => ?_)
    have hr := zRC_rep hq
    refine lv_dup F.1 F.2.1 dX11_init_139 rfl ?_
    refine zK_callN (cs := []) (As := []) (rest := [.ref q]) hAO zn_44 rfl zq_45 zq_46 zq_2 hdX7_init (okX7_init l D cy q ) (zFx_k F hA) hq hl.1 rfl (Nat.le_of_ble_eq_true rfl) dX11_init_140 ⟨Nat.le_of_ble_eq_true rfl, Nat.le_of_ble_eq_true rfl⟩ ⟨by show 84 + 2 * k + 1 + 1 ≤ 1110; omega, by show 7096 + 1500 * k + 20 + 1480 ≤ 776596; omega⟩ (fun H locs cs1 hp hq => ?_)
    obtain ⟨w1, rfl⟩ := hp
    obtain ⟨B1, hB1, eo1, hst, hD1, h9, hr⟩ := zmkX7 hst h9 n1  hfr1 hq
    clear hq
    generalize eI1 : ids ++ znmX7 n1 = I1 at hst hD1 h9 hr
    have F0 := F
    have F := zFx_nx F hst hD1
    have hi1 : ∀ k o, (k, o) ∈ ids → (k, o) ∈ I1 := fun k o h => eI1 ▸ List.mem_append_left _ h
    have hn1 : (7, n1) ∈ I1 := eI1 ▸ List.mem_append_right _ (List.mem_of_getElem? (l := znmX7 n1) (i := 0) rfl)
    have hcB1 := (hB1 11 0 hm).trans hcB
    obtain ⟨z1, ez1⟩ : ∃ y, y = zmg (znmX7 n1) (zmwX7 n1 ) z := ⟨_, rfl⟩
    rw [← ez1] at hr
    replace h := zl_sub ez1 h
    clear ez1
    replace h := zl_sub eI1.symm h
    have ha1_0 : (11, 0) ∈ I1 := hi1 _ _ hm
    replace hl : lv_has ls 3 [(0, .ref (B1 11 0)), (1, .int (Int32.ofNat k))] := by
            rw [hB1 11 0 hm]; exact hl
    subst eo1
    refine lv_astore_n (lv' := [(2, .ref (B1 7 n1)), (0, .ref (B1 11 0)), (1, .int (Int32.ofNat k))]) F.1 F.2.1 dX11_init_143 rfl hl (by decide) rfl (fun ls hl => ?_)
    refine lv_aload_n F.1 F.2.1 dX11_init_144 rfl (lv_at hl 0 rfl) ?_
    refine lv_aload_n F.1 F.2.1 dX11_init_145 rfl (lv_at hl 1 rfl) ?_
    refine gf11_55 F ha1_0 hr dX11_init_146 (fun y2 ey2 => ?_)
    replace h := zl_sub ey2 h
    have hy2 := zal_g hr ha1_0 (j := 11) rfl ey2
    clear ey2
    refine pf11_58 F hn1 hr dX11_init_149 y2 hy2 (fun H locs z3 ez3 hr => ?_)
    replace h := zl_sub ez3 h
    clear ez3
    refine lv_aload_n F.1 F.2.1 dX11_init_152 rfl (lv_at hl 1 rfl) ?_
    refine lv_aload_n F.1 F.2.1 dX11_init_153 rfl (lv_at hl 0 rfl) ?_
    refine pf11_55 F ha1_0 hr dX11_init_154 (some n1) (zal_s hn1) (fun H locs z4 ez4 hr => ?_)
    replace h := zl_sub ez4 h
    clear ez4
    refine lv_iinc (v := Int32.ofNat (k + 1)) (lv' := [(1, .int (Int32.ofNat (k + 1))), (2, .ref (B1 7 n1)), (0, .ref (B1 11 0))]) F.1 F.2.1 dX11_init_157 hl (k := 2) rfl hof.2.2.2 (by decide) rfl (fun ls hl => ?_)
    refine lv_goto (tgt := 129) F.1 F.2.1 dX11_init_160 (by decide) ?_
    exact W.widen (k := 84 + 2 * (k + 1)) (n := 7096 + 1500 * (k + 1)) (show 84 + 2 * k + 1 + 1 ≤ 84 + 2 * (k + 1) by omega) (show 7096 + 1500 * k + 20 + 1480 ≤ 7096 + 1500 * (k + 1) by omega) (ih (k + 1) hst h9 F ha1_0 (by omega) hr (lv_sub hl [2, 0] rfl) hcB1 h)
end SX11_init
set_option maxHeartbeats 16000000 in
set_option maxRecDepth 100000 in
theorem okX11_init (l : Launch) (D : va_G) (cy : Nat → ClassId) (h0 : Nat) {z' : St} {I' : List (Nat × Nat)} (h : fX11_init = some (z', I')) : zKM l yX11_init (zws yX11_init cX11_init 3 none) rmX11_init D cy [.ref h0] [(h0, .inr (11, [.null, .int 0, .null, .int 0, .int 0, .int 0, .int 0, .int 0, .int 0, .null, .null, .null, .int 0, .null, .null, .int 0, .null, .null, .null, .int 0, .null]))] (zP11 cy h0 z' I') := by
  refine zKM_of (by decide +kernel) rfl (Nat.le_of_ble_eq_true rfl) (fun p e s m args below meth c A ls F hAO hin hret hlocks hr hl => ?_)
  have hca : 1110 ≤ rmX11_init.cells := Nat.le_refl _
  have hcb : 776596 ≤ rmX11_init.slots := Nat.le_refl _
  have hA := F.2.2.2.2.2.2.2
  unfold fX11_init at h
  refine lv_aload_n F.1 F.2.1 dX11_init_0 rfl (lv_at hl 0 rfl) ?_
  refine zK_obj zq_34 zq_35 zq_36 F hl.1 dX11_init_1 (Nat.le_of_ble_eq_true rfl) (Nat.le_of_ble_eq_true rfl) ?_
  refine lv_aload_n F.1 F.2.1 dX11_init_4 rfl (lv_at hl 0 rfl) ?_
  refine lv_bipush (v := (24 : Int32)) F.1 F.2.1 dX11_init_5 (by decide) ?_
  refine zc_newq (C := "WholeInternet$Net") (N' := 24) (t0 := 9) rfl zq_37 (hAO.1 "WholeInternet$Net" (by decide +kernel)) F hr (by decide) (by decide) (Nat.le_of_ble_eq_true rfl) (Nat.le_of_ble_eq_true rfl) (Nat.le_of_ble_eq_true rfl) dX11_init_7 (fun q1 H hr => ?_)
  have hr : zRC D cy (fun _ _ => 0) [] A s.heap zz0 [(h0, .inr (11, [.null, .int 0, .null, .int 0, .int 0, .int 0, .int 0, .int 0, .int 0, .null, .null, .null, .int 0, .null, .null, .int 0, .null, .null, .null, .int 0, .null])), (q1, .inl (cy 9, (24, .inr (.inr (.inr (.inr (fun _ => none)))))))] H _ := hr
  refine zc_putF (k := 11) (j := 0) (T := TX11) (N := 21) (v := .ref q1) tyX11 tyX11_ok nmX11 rfl inX11 (by decide) zq_194 rfl rfl rfl F hin hr 0 rfl dX11_init_10 rfl rfl (Nat.le_of_ble_eq_true rfl) (fun H locs hr => ?_)
  have hr : zRC D cy (fun _ _ => 0) [] A s.heap zz0 [(h0, .inr (11, [.ref q1, .int 0, .null, .int 0, .int 0, .int 0, .int 0, .int 0, .int 0, .null, .null, .null, .int 0, .null, .null, .int 0, .null, .null, .null, .int 0, .null])), (q1, .inl (cy 9, (24, .inr (.inr (.inr (.inr (fun _ => none)))))))] H locs := hr
  refine lv_aload_n F.1 F.2.1 dX11_init_13 rfl (lv_at hl 0 rfl) ?_
  refine lv_bipush (v := (16 : Int32)) F.1 F.2.1 dX11_init_14 (by decide) ?_
  refine zc_newq (C := "WholeInternet$Box") (N' := 16) (t0 := 10) rfl zq_39 (hAO.1 "WholeInternet$Box" (by decide +kernel)) F hr (by decide) (by decide) (Nat.le_of_ble_eq_true rfl) (Nat.le_of_ble_eq_true rfl) (Nat.le_of_ble_eq_true rfl) dX11_init_16 (fun q2 H hr => ?_)
  have hr : zRC D cy (fun _ _ => 0) [] A s.heap zz0 [(h0, .inr (11, [.ref q1, .int 0, .null, .int 0, .int 0, .int 0, .int 0, .int 0, .int 0, .null, .null, .null, .int 0, .null, .null, .int 0, .null, .null, .null, .int 0, .null])), (q1, .inl (cy 9, (24, .inr (.inr (.inr (.inr (fun _ => none))))))), (q2, .inl (cy 10, (16, .inr (.inr (.inr (.inr (fun _ => none)))))))] H _ := hr
  refine zc_putF (k := 11) (j := 2) (T := TX11) (N := 21) (v := .ref q2) tyX11 tyX11_ok nmX11 rfl inX11 (by decide) zq_196 rfl rfl rfl F hin hr 0 rfl dX11_init_19 rfl rfl (Nat.le_of_ble_eq_true rfl) (fun H locs hr => ?_)
  have hr : zRC D cy (fun _ _ => 0) [] A s.heap zz0 [(h0, .inr (11, [.ref q1, .int 0, .ref q2, .int 0, .int 0, .int 0, .int 0, .int 0, .int 0, .null, .null, .null, .int 0, .null, .null, .int 0, .null, .null, .null, .int 0, .null])), (q1, .inl (cy 9, (24, .inr (.inr (.inr (.inr (fun _ => none))))))), (q2, .inl (cy 10, (16, .inr (.inr (.inr (.inr (fun _ => none)))))))] H locs := hr
  refine lv_aload_n F.1 F.2.1 dX11_init_22 rfl (lv_at hl 0 rfl) ?_
  refine lv_sipush (v := (256 : Int32)) F.1 F.2.1 dX11_init_23 (by decide) ?_
  refine zc_newq (C := "WholeInternet$Parcel") (N' := 256) (t0 := 6) rfl zq_41 (hAO.1 "WholeInternet$Parcel" (by decide +kernel)) F hr (by decide) (by decide) (Nat.le_of_ble_eq_true rfl) (Nat.le_of_ble_eq_true rfl) (Nat.le_of_ble_eq_true rfl) dX11_init_26 (fun q3 H hr => ?_)
  have hr : zRC D cy (fun _ _ => 0) [] A s.heap zz0 [(h0, .inr (11, [.ref q1, .int 0, .ref q2, .int 0, .int 0, .int 0, .int 0, .int 0, .int 0, .null, .null, .null, .int 0, .null, .null, .int 0, .null, .null, .null, .int 0, .null])), (q1, .inl (cy 9, (24, .inr (.inr (.inr (.inr (fun _ => none))))))), (q2, .inl (cy 10, (16, .inr (.inr (.inr (.inr (fun _ => none))))))), (q3, .inl (cy 6, (256, .inr (.inr (.inr (.inr (fun _ => none)))))))] H _ := hr
  refine zc_putF (k := 11) (j := 9) (T := TX11) (N := 21) (v := .ref q3) tyX11 tyX11_ok nmX11 rfl inX11 (by decide) zq_203 rfl rfl rfl F hin hr 0 rfl dX11_init_29 rfl rfl (Nat.le_of_ble_eq_true rfl) (fun H locs hr => ?_)
  have hr : zRC D cy (fun _ _ => 0) [] A s.heap zz0 [(h0, .inr (11, [.ref q1, .int 0, .ref q2, .int 0, .int 0, .int 0, .int 0, .int 0, .int 0, .ref q3, .null, .null, .int 0, .null, .null, .int 0, .null, .null, .null, .int 0, .null])), (q1, .inl (cy 9, (24, .inr (.inr (.inr (.inr (fun _ => none))))))), (q2, .inl (cy 10, (16, .inr (.inr (.inr (.inr (fun _ => none))))))), (q3, .inl (cy 6, (256, .inr (.inr (.inr (.inr (fun _ => none)))))))] H locs := hr
  refine lv_aload_n F.1 F.2.1 dX11_init_32 rfl (lv_at hl 0 rfl) ?_
  refine lv_sipush (v := (256 : Int32)) F.1 F.2.1 dX11_init_33 (by decide) ?_
  refine zc_newq (C := "WholeInternet$Parcel") (N' := 256) (t0 := 6) rfl zq_41 (hAO.1 "WholeInternet$Parcel" (by decide +kernel)) F hr (by decide) (by decide) (Nat.le_of_ble_eq_true rfl) (Nat.le_of_ble_eq_true rfl) (Nat.le_of_ble_eq_true rfl) dX11_init_36 (fun q4 H hr => ?_)
  have hr : zRC D cy (fun _ _ => 0) [] A s.heap zz0 [(h0, .inr (11, [.ref q1, .int 0, .ref q2, .int 0, .int 0, .int 0, .int 0, .int 0, .int 0, .ref q3, .null, .null, .int 0, .null, .null, .int 0, .null, .null, .null, .int 0, .null])), (q1, .inl (cy 9, (24, .inr (.inr (.inr (.inr (fun _ => none))))))), (q2, .inl (cy 10, (16, .inr (.inr (.inr (.inr (fun _ => none))))))), (q3, .inl (cy 6, (256, .inr (.inr (.inr (.inr (fun _ => none))))))), (q4, .inl (cy 6, (256, .inr (.inr (.inr (.inr (fun _ => none)))))))] H _ := hr
  refine zc_putF (k := 11) (j := 10) (T := TX11) (N := 21) (v := .ref q4) tyX11 tyX11_ok nmX11 rfl inX11 (by decide) zq_204 rfl rfl rfl F hin hr 0 rfl dX11_init_39 rfl rfl (Nat.le_of_ble_eq_true rfl) (fun H locs hr => ?_)
  have hr : zRC D cy (fun _ _ => 0) [] A s.heap zz0 [(h0, .inr (11, [.ref q1, .int 0, .ref q2, .int 0, .int 0, .int 0, .int 0, .int 0, .int 0, .ref q3, .ref q4, .null, .int 0, .null, .null, .int 0, .null, .null, .null, .int 0, .null])), (q1, .inl (cy 9, (24, .inr (.inr (.inr (.inr (fun _ => none))))))), (q2, .inl (cy 10, (16, .inr (.inr (.inr (.inr (fun _ => none))))))), (q3, .inl (cy 6, (256, .inr (.inr (.inr (.inr (fun _ => none))))))), (q4, .inl (cy 6, (256, .inr (.inr (.inr (.inr (fun _ => none)))))))] H locs := hr
  refine lv_aload_n F.1 F.2.1 dX11_init_42 rfl (lv_at hl 0 rfl) ?_
  refine zc_new (k := 7) (T := TX7) (N := 20) (fs := [.int 0, .int 0, .int 0, .int 0, .int 0, .int 0, .int 0, .int 0, .null, .int 0, .int 0, .int 0, .int 0, .int 0, .null, .int 0, .int 0, .int 0, .int 0, .int 0]) tyX7 tyX7_ok rfl inX7 zq_41 zq_43 zq_2 F hr (by decide +kernel) (Nat.le_of_ble_eq_true rfl) (Nat.le_of_ble_eq_true rfl) dX11_init_43 (fun q5 H hr => ?_)
  have hr : zRC D cy (fun _ _ => 0) [] A s.heap zz0 [(h0, .inr (11, [.ref q1, .int 0, .ref q2, .int 0, .int 0, .int 0, .int 0, .int 0, .int 0, .ref q3, .ref q4, .null, .int 0, .null, .null, .int 0, .null, .null, .null, .int 0, .null])), (q1, .inl (cy 9, (24, .inr (.inr (.inr (.inr (fun _ => none))))))), (q2, .inl (cy 10, (16, .inr (.inr (.inr (.inr (fun _ => none))))))), (q3, .inl (cy 6, (256, .inr (.inr (.inr (.inr (fun _ => none))))))), (q4, .inl (cy 6, (256, .inr (.inr (.inr (.inr (fun _ => none))))))), (q5, .inr (7, [.int 0, .int 0, .int 0, .int 0, .int 0, .int 0, .int 0, .int 0, .null, .int 0, .int 0, .int 0, .int 0, .int 0, .null, .int 0, .int 0, .int 0, .int 0, .int 0]))] H _ := hr
  refine lv_dup F.1 F.2.1 dX11_init_46 rfl ?_
  refine zK_callN (cs := [(h0, .inr (11, [.ref q1, .int 0, .ref q2, .int 0, .int 0, .int 0, .int 0, .int 0, .int 0, .ref q3, .ref q4, .null, .int 0, .null, .null, .int 0, .null, .null, .null, .int 0, .null])), (q1, .inl (cy 9, (24, .inr (.inr (.inr (.inr (fun _ => none))))))), (q2, .inl (cy 10, (16, .inr (.inr (.inr (.inr (fun _ => none))))))), (q3, .inl (cy 6, (256, .inr (.inr (.inr (.inr (fun _ => none))))))), (q4, .inl (cy 6, (256, .inr (.inr (.inr (.inr (fun _ => none)))))))]) (As := []) (rest := [.ref q5, .ref h0]) hAO zn_44 rfl zq_45 zq_46 zq_2 hdX7_init (okX7_init l D cy q5) F hr hl.1 rfl (Nat.le_of_ble_eq_true rfl) dX11_init_47 ⟨Nat.le_of_ble_eq_true rfl, Nat.le_of_ble_eq_true rfl⟩ ⟨Nat.le_of_ble_eq_true rfl, Nat.le_of_ble_eq_true rfl⟩ (fun H locs cs1 hp hr => ?_)
  obtain ⟨q6, rfl⟩ := hp
  have hr : zRC D cy (fun _ _ => 0) [] A s.heap zz0 [(h0, .inr (11, [.ref q1, .int 0, .ref q2, .int 0, .int 0, .int 0, .int 0, .int 0, .int 0, .ref q3, .ref q4, .null, .int 0, .null, .null, .int 0, .null, .null, .null, .int 0, .null])), (q1, .inl (cy 9, (24, .inr (.inr (.inr (.inr (fun _ => none))))))), (q2, .inl (cy 10, (16, .inr (.inr (.inr (.inr (fun _ => none))))))), (q3, .inl (cy 6, (256, .inr (.inr (.inr (.inr (fun _ => none))))))), (q4, .inl (cy 6, (256, .inr (.inr (.inr (.inr (fun _ => none))))))), (q5, .inr (7, [.int 0, .int 0, .int 0, .int 0, .int 0, .int 0, .int 0, .int 0, .ref q6, .int 0, .int 0, .int 0, .int 0, .int 0, .null, .int 0, .int 0, .int 0, .int 0, .int 0])), (q6, .inl (cy 0, (1480, .inl (fun _ => 0))))] H locs := hr
  refine zc_putF (k := 11) (j := 13) (T := TX11) (N := 21) (v := .ref q5) tyX11 tyX11_ok nmX11 rfl inX11 (by decide) zq_207 rfl rfl rfl F hin hr 0 rfl dX11_init_50 rfl rfl (Nat.le_of_ble_eq_true rfl) (fun H locs hr => ?_)
  have hr : zRC D cy (fun _ _ => 0) [] A s.heap zz0 [(h0, .inr (11, [.ref q1, .int 0, .ref q2, .int 0, .int 0, .int 0, .int 0, .int 0, .int 0, .ref q3, .ref q4, .null, .int 0, .ref q5, .null, .int 0, .null, .null, .null, .int 0, .null])), (q1, .inl (cy 9, (24, .inr (.inr (.inr (.inr (fun _ => none))))))), (q2, .inl (cy 10, (16, .inr (.inr (.inr (.inr (fun _ => none))))))), (q3, .inl (cy 6, (256, .inr (.inr (.inr (.inr (fun _ => none))))))), (q4, .inl (cy 6, (256, .inr (.inr (.inr (.inr (fun _ => none))))))), (q5, .inr (7, [.int 0, .int 0, .int 0, .int 0, .int 0, .int 0, .int 0, .int 0, .ref q6, .int 0, .int 0, .int 0, .int 0, .int 0, .null, .int 0, .int 0, .int 0, .int 0, .int 0])), (q6, .inl (cy 0, (1480, .inl (fun _ => 0))))] H locs := hr
  refine lv_aload_n F.1 F.2.1 dX11_init_53 rfl (lv_at hl 0 rfl) ?_
  refine zc_new (k := 7) (T := TX7) (N := 20) (fs := [.int 0, .int 0, .int 0, .int 0, .int 0, .int 0, .int 0, .int 0, .null, .int 0, .int 0, .int 0, .int 0, .int 0, .null, .int 0, .int 0, .int 0, .int 0, .int 0]) tyX7 tyX7_ok rfl inX7 zq_41 zq_43 zq_2 F hr (by decide +kernel) (Nat.le_of_ble_eq_true rfl) (Nat.le_of_ble_eq_true rfl) dX11_init_54 (fun q7 H hr => ?_)
  have hr : zRC D cy (fun _ _ => 0) [] A s.heap zz0 [(h0, .inr (11, [.ref q1, .int 0, .ref q2, .int 0, .int 0, .int 0, .int 0, .int 0, .int 0, .ref q3, .ref q4, .null, .int 0, .ref q5, .null, .int 0, .null, .null, .null, .int 0, .null])), (q1, .inl (cy 9, (24, .inr (.inr (.inr (.inr (fun _ => none))))))), (q2, .inl (cy 10, (16, .inr (.inr (.inr (.inr (fun _ => none))))))), (q3, .inl (cy 6, (256, .inr (.inr (.inr (.inr (fun _ => none))))))), (q4, .inl (cy 6, (256, .inr (.inr (.inr (.inr (fun _ => none))))))), (q5, .inr (7, [.int 0, .int 0, .int 0, .int 0, .int 0, .int 0, .int 0, .int 0, .ref q6, .int 0, .int 0, .int 0, .int 0, .int 0, .null, .int 0, .int 0, .int 0, .int 0, .int 0])), (q6, .inl (cy 0, (1480, .inl (fun _ => 0)))), (q7, .inr (7, [.int 0, .int 0, .int 0, .int 0, .int 0, .int 0, .int 0, .int 0, .null, .int 0, .int 0, .int 0, .int 0, .int 0, .null, .int 0, .int 0, .int 0, .int 0, .int 0]))] H _ := hr
  refine lv_dup F.1 F.2.1 dX11_init_57 rfl ?_
  refine zK_callN (cs := [(h0, .inr (11, [.ref q1, .int 0, .ref q2, .int 0, .int 0, .int 0, .int 0, .int 0, .int 0, .ref q3, .ref q4, .null, .int 0, .ref q5, .null, .int 0, .null, .null, .null, .int 0, .null])), (q1, .inl (cy 9, (24, .inr (.inr (.inr (.inr (fun _ => none))))))), (q2, .inl (cy 10, (16, .inr (.inr (.inr (.inr (fun _ => none))))))), (q3, .inl (cy 6, (256, .inr (.inr (.inr (.inr (fun _ => none))))))), (q4, .inl (cy 6, (256, .inr (.inr (.inr (.inr (fun _ => none))))))), (q5, .inr (7, [.int 0, .int 0, .int 0, .int 0, .int 0, .int 0, .int 0, .int 0, .ref q6, .int 0, .int 0, .int 0, .int 0, .int 0, .null, .int 0, .int 0, .int 0, .int 0, .int 0])), (q6, .inl (cy 0, (1480, .inl (fun _ => 0))))]) (As := []) (rest := [.ref q7, .ref h0]) hAO zn_44 rfl zq_45 zq_46 zq_2 hdX7_init (okX7_init l D cy q7) F hr hl.1 rfl (Nat.le_of_ble_eq_true rfl) dX11_init_58 ⟨Nat.le_of_ble_eq_true rfl, Nat.le_of_ble_eq_true rfl⟩ ⟨Nat.le_of_ble_eq_true rfl, Nat.le_of_ble_eq_true rfl⟩ (fun H locs cs1 hp hr => ?_)
  obtain ⟨q8, rfl⟩ := hp
  have hr : zRC D cy (fun _ _ => 0) [] A s.heap zz0 [(h0, .inr (11, [.ref q1, .int 0, .ref q2, .int 0, .int 0, .int 0, .int 0, .int 0, .int 0, .ref q3, .ref q4, .null, .int 0, .ref q5, .null, .int 0, .null, .null, .null, .int 0, .null])), (q1, .inl (cy 9, (24, .inr (.inr (.inr (.inr (fun _ => none))))))), (q2, .inl (cy 10, (16, .inr (.inr (.inr (.inr (fun _ => none))))))), (q3, .inl (cy 6, (256, .inr (.inr (.inr (.inr (fun _ => none))))))), (q4, .inl (cy 6, (256, .inr (.inr (.inr (.inr (fun _ => none))))))), (q5, .inr (7, [.int 0, .int 0, .int 0, .int 0, .int 0, .int 0, .int 0, .int 0, .ref q6, .int 0, .int 0, .int 0, .int 0, .int 0, .null, .int 0, .int 0, .int 0, .int 0, .int 0])), (q6, .inl (cy 0, (1480, .inl (fun _ => 0)))), (q7, .inr (7, [.int 0, .int 0, .int 0, .int 0, .int 0, .int 0, .int 0, .int 0, .ref q8, .int 0, .int 0, .int 0, .int 0, .int 0, .null, .int 0, .int 0, .int 0, .int 0, .int 0])), (q8, .inl (cy 0, (1480, .inl (fun _ => 0))))] H locs := hr
  refine zc_putF (k := 11) (j := 14) (T := TX11) (N := 21) (v := .ref q7) tyX11 tyX11_ok nmX11 rfl inX11 (by decide) zq_208 rfl rfl rfl F hin hr 0 rfl dX11_init_61 rfl rfl (Nat.le_of_ble_eq_true rfl) (fun H locs hr => ?_)
  have hr : zRC D cy (fun _ _ => 0) [] A s.heap zz0 [(h0, .inr (11, [.ref q1, .int 0, .ref q2, .int 0, .int 0, .int 0, .int 0, .int 0, .int 0, .ref q3, .ref q4, .null, .int 0, .ref q5, .ref q7, .int 0, .null, .null, .null, .int 0, .null])), (q1, .inl (cy 9, (24, .inr (.inr (.inr (.inr (fun _ => none))))))), (q2, .inl (cy 10, (16, .inr (.inr (.inr (.inr (fun _ => none))))))), (q3, .inl (cy 6, (256, .inr (.inr (.inr (.inr (fun _ => none))))))), (q4, .inl (cy 6, (256, .inr (.inr (.inr (.inr (fun _ => none))))))), (q5, .inr (7, [.int 0, .int 0, .int 0, .int 0, .int 0, .int 0, .int 0, .int 0, .ref q6, .int 0, .int 0, .int 0, .int 0, .int 0, .null, .int 0, .int 0, .int 0, .int 0, .int 0])), (q6, .inl (cy 0, (1480, .inl (fun _ => 0)))), (q7, .inr (7, [.int 0, .int 0, .int 0, .int 0, .int 0, .int 0, .int 0, .int 0, .ref q8, .int 0, .int 0, .int 0, .int 0, .int 0, .null, .int 0, .int 0, .int 0, .int 0, .int 0])), (q8, .inl (cy 0, (1480, .inl (fun _ => 0))))] H locs := hr
  refine lv_aload_n F.1 F.2.1 dX11_init_64 rfl (lv_at hl 0 rfl) ?_
  refine lv_sipush (v := (512 : Int32)) F.1 F.2.1 dX11_init_65 (by decide) ?_
  refine zc_newa (atype := .int) (ty := .int) (N' := 512) (t0 := 1) (a0 := (512, .inl (fun _ => 0))) rfl rfl zq_192 F hr (fun cA => zarr_int cA _) (by decide) (by decide) (Nat.le_of_ble_eq_true rfl) (Nat.le_of_ble_eq_true rfl) (Nat.le_of_ble_eq_true rfl) dX11_init_68 (fun q9 H hr => ?_)
  have hr : zRC D cy (fun _ _ => 0) [] A s.heap zz0 [(h0, .inr (11, [.ref q1, .int 0, .ref q2, .int 0, .int 0, .int 0, .int 0, .int 0, .int 0, .ref q3, .ref q4, .null, .int 0, .ref q5, .ref q7, .int 0, .null, .null, .null, .int 0, .null])), (q1, .inl (cy 9, (24, .inr (.inr (.inr (.inr (fun _ => none))))))), (q2, .inl (cy 10, (16, .inr (.inr (.inr (.inr (fun _ => none))))))), (q3, .inl (cy 6, (256, .inr (.inr (.inr (.inr (fun _ => none))))))), (q4, .inl (cy 6, (256, .inr (.inr (.inr (.inr (fun _ => none))))))), (q5, .inr (7, [.int 0, .int 0, .int 0, .int 0, .int 0, .int 0, .int 0, .int 0, .ref q6, .int 0, .int 0, .int 0, .int 0, .int 0, .null, .int 0, .int 0, .int 0, .int 0, .int 0])), (q6, .inl (cy 0, (1480, .inl (fun _ => 0)))), (q7, .inr (7, [.int 0, .int 0, .int 0, .int 0, .int 0, .int 0, .int 0, .int 0, .ref q8, .int 0, .int 0, .int 0, .int 0, .int 0, .null, .int 0, .int 0, .int 0, .int 0, .int 0])), (q8, .inl (cy 0, (1480, .inl (fun _ => 0)))), (q9, .inl (cy 1, (512, .inl (fun _ => 0))))] H _ := hr
  refine zc_putF (k := 11) (j := 16) (T := TX11) (N := 21) (v := .ref q9) tyX11 tyX11_ok nmX11 rfl inX11 (by decide) zq_210 rfl rfl rfl F hin hr 0 rfl dX11_init_70 rfl rfl (Nat.le_of_ble_eq_true rfl) (fun H locs hr => ?_)
  have hr : zRC D cy (fun _ _ => 0) [] A s.heap zz0 [(h0, .inr (11, [.ref q1, .int 0, .ref q2, .int 0, .int 0, .int 0, .int 0, .int 0, .int 0, .ref q3, .ref q4, .null, .int 0, .ref q5, .ref q7, .int 0, .ref q9, .null, .null, .int 0, .null])), (q1, .inl (cy 9, (24, .inr (.inr (.inr (.inr (fun _ => none))))))), (q2, .inl (cy 10, (16, .inr (.inr (.inr (.inr (fun _ => none))))))), (q3, .inl (cy 6, (256, .inr (.inr (.inr (.inr (fun _ => none))))))), (q4, .inl (cy 6, (256, .inr (.inr (.inr (.inr (fun _ => none))))))), (q5, .inr (7, [.int 0, .int 0, .int 0, .int 0, .int 0, .int 0, .int 0, .int 0, .ref q6, .int 0, .int 0, .int 0, .int 0, .int 0, .null, .int 0, .int 0, .int 0, .int 0, .int 0])), (q6, .inl (cy 0, (1480, .inl (fun _ => 0)))), (q7, .inr (7, [.int 0, .int 0, .int 0, .int 0, .int 0, .int 0, .int 0, .int 0, .ref q8, .int 0, .int 0, .int 0, .int 0, .int 0, .null, .int 0, .int 0, .int 0, .int 0, .int 0])), (q8, .inl (cy 0, (1480, .inl (fun _ => 0)))), (q9, .inl (cy 1, (512, .inl (fun _ => 0))))] H locs := hr
  refine lv_aload_n F.1 F.2.1 dX11_init_73 rfl (lv_at hl 0 rfl) ?_
  refine lv_sipush (v := (512 : Int32)) F.1 F.2.1 dX11_init_74 (by decide) ?_
  refine zc_newa (atype := .int) (ty := .int) (N' := 512) (t0 := 1) (a0 := (512, .inl (fun _ => 0))) rfl rfl zq_192 F hr (fun cA => zarr_int cA _) (by decide) (by decide) (Nat.le_of_ble_eq_true rfl) (Nat.le_of_ble_eq_true rfl) (Nat.le_of_ble_eq_true rfl) dX11_init_77 (fun q10 H hr => ?_)
  have hr : zRC D cy (fun _ _ => 0) [] A s.heap zz0 [(h0, .inr (11, [.ref q1, .int 0, .ref q2, .int 0, .int 0, .int 0, .int 0, .int 0, .int 0, .ref q3, .ref q4, .null, .int 0, .ref q5, .ref q7, .int 0, .ref q9, .null, .null, .int 0, .null])), (q1, .inl (cy 9, (24, .inr (.inr (.inr (.inr (fun _ => none))))))), (q2, .inl (cy 10, (16, .inr (.inr (.inr (.inr (fun _ => none))))))), (q3, .inl (cy 6, (256, .inr (.inr (.inr (.inr (fun _ => none))))))), (q4, .inl (cy 6, (256, .inr (.inr (.inr (.inr (fun _ => none))))))), (q5, .inr (7, [.int 0, .int 0, .int 0, .int 0, .int 0, .int 0, .int 0, .int 0, .ref q6, .int 0, .int 0, .int 0, .int 0, .int 0, .null, .int 0, .int 0, .int 0, .int 0, .int 0])), (q6, .inl (cy 0, (1480, .inl (fun _ => 0)))), (q7, .inr (7, [.int 0, .int 0, .int 0, .int 0, .int 0, .int 0, .int 0, .int 0, .ref q8, .int 0, .int 0, .int 0, .int 0, .int 0, .null, .int 0, .int 0, .int 0, .int 0, .int 0])), (q8, .inl (cy 0, (1480, .inl (fun _ => 0)))), (q9, .inl (cy 1, (512, .inl (fun _ => 0)))), (q10, .inl (cy 1, (512, .inl (fun _ => 0))))] H _ := hr
  refine zc_putF (k := 11) (j := 17) (T := TX11) (N := 21) (v := .ref q10) tyX11 tyX11_ok nmX11 rfl inX11 (by decide) zq_211 rfl rfl rfl F hin hr 0 rfl dX11_init_79 rfl rfl (Nat.le_of_ble_eq_true rfl) (fun H locs hr => ?_)
  have hr : zRC D cy (fun _ _ => 0) [] A s.heap zz0 [(h0, .inr (11, [.ref q1, .int 0, .ref q2, .int 0, .int 0, .int 0, .int 0, .int 0, .int 0, .ref q3, .ref q4, .null, .int 0, .ref q5, .ref q7, .int 0, .ref q9, .ref q10, .null, .int 0, .null])), (q1, .inl (cy 9, (24, .inr (.inr (.inr (.inr (fun _ => none))))))), (q2, .inl (cy 10, (16, .inr (.inr (.inr (.inr (fun _ => none))))))), (q3, .inl (cy 6, (256, .inr (.inr (.inr (.inr (fun _ => none))))))), (q4, .inl (cy 6, (256, .inr (.inr (.inr (.inr (fun _ => none))))))), (q5, .inr (7, [.int 0, .int 0, .int 0, .int 0, .int 0, .int 0, .int 0, .int 0, .ref q6, .int 0, .int 0, .int 0, .int 0, .int 0, .null, .int 0, .int 0, .int 0, .int 0, .int 0])), (q6, .inl (cy 0, (1480, .inl (fun _ => 0)))), (q7, .inr (7, [.int 0, .int 0, .int 0, .int 0, .int 0, .int 0, .int 0, .int 0, .ref q8, .int 0, .int 0, .int 0, .int 0, .int 0, .null, .int 0, .int 0, .int 0, .int 0, .int 0])), (q8, .inl (cy 0, (1480, .inl (fun _ => 0)))), (q9, .inl (cy 1, (512, .inl (fun _ => 0)))), (q10, .inl (cy 1, (512, .inl (fun _ => 0))))] H locs := hr
  refine lv_aload_n F.1 F.2.1 dX11_init_82 rfl (lv_at hl 0 rfl) ?_
  refine lv_sipush (v := (512 : Int32)) F.1 F.2.1 dX11_init_83 (by decide) ?_
  refine zc_newa (atype := .long) (ty := .long) (N' := 512) (t0 := 2) (a0 := (512, .inr (.inl (fun _ => 0)))) rfl rfl zq_193 F hr (fun cA => zarr_l cA _) (by decide) (by decide) (Nat.le_of_ble_eq_true rfl) (Nat.le_of_ble_eq_true rfl) (Nat.le_of_ble_eq_true rfl) dX11_init_86 (fun q11 H hr => ?_)
  have hr : zRC D cy (fun _ _ => 0) [] A s.heap zz0 [(h0, .inr (11, [.ref q1, .int 0, .ref q2, .int 0, .int 0, .int 0, .int 0, .int 0, .int 0, .ref q3, .ref q4, .null, .int 0, .ref q5, .ref q7, .int 0, .ref q9, .ref q10, .null, .int 0, .null])), (q1, .inl (cy 9, (24, .inr (.inr (.inr (.inr (fun _ => none))))))), (q2, .inl (cy 10, (16, .inr (.inr (.inr (.inr (fun _ => none))))))), (q3, .inl (cy 6, (256, .inr (.inr (.inr (.inr (fun _ => none))))))), (q4, .inl (cy 6, (256, .inr (.inr (.inr (.inr (fun _ => none))))))), (q5, .inr (7, [.int 0, .int 0, .int 0, .int 0, .int 0, .int 0, .int 0, .int 0, .ref q6, .int 0, .int 0, .int 0, .int 0, .int 0, .null, .int 0, .int 0, .int 0, .int 0, .int 0])), (q6, .inl (cy 0, (1480, .inl (fun _ => 0)))), (q7, .inr (7, [.int 0, .int 0, .int 0, .int 0, .int 0, .int 0, .int 0, .int 0, .ref q8, .int 0, .int 0, .int 0, .int 0, .int 0, .null, .int 0, .int 0, .int 0, .int 0, .int 0])), (q8, .inl (cy 0, (1480, .inl (fun _ => 0)))), (q9, .inl (cy 1, (512, .inl (fun _ => 0)))), (q10, .inl (cy 1, (512, .inl (fun _ => 0)))), (q11, .inl (cy 2, (512, .inr (.inl (fun _ => 0)))))] H _ := hr
  refine zc_putF (k := 11) (j := 18) (T := TX11) (N := 21) (v := .ref q11) tyX11 tyX11_ok nmX11 rfl inX11 (by decide) zq_212 rfl rfl rfl F hin hr 0 rfl dX11_init_88 rfl rfl (Nat.le_of_ble_eq_true rfl) (fun H locs hr => ?_)
  have hr : zRC D cy (fun _ _ => 0) [] A s.heap zz0 [(h0, .inr (11, [.ref q1, .int 0, .ref q2, .int 0, .int 0, .int 0, .int 0, .int 0, .int 0, .ref q3, .ref q4, .null, .int 0, .ref q5, .ref q7, .int 0, .ref q9, .ref q10, .ref q11, .int 0, .null])), (q1, .inl (cy 9, (24, .inr (.inr (.inr (.inr (fun _ => none))))))), (q2, .inl (cy 10, (16, .inr (.inr (.inr (.inr (fun _ => none))))))), (q3, .inl (cy 6, (256, .inr (.inr (.inr (.inr (fun _ => none))))))), (q4, .inl (cy 6, (256, .inr (.inr (.inr (.inr (fun _ => none))))))), (q5, .inr (7, [.int 0, .int 0, .int 0, .int 0, .int 0, .int 0, .int 0, .int 0, .ref q6, .int 0, .int 0, .int 0, .int 0, .int 0, .null, .int 0, .int 0, .int 0, .int 0, .int 0])), (q6, .inl (cy 0, (1480, .inl (fun _ => 0)))), (q7, .inr (7, [.int 0, .int 0, .int 0, .int 0, .int 0, .int 0, .int 0, .int 0, .ref q8, .int 0, .int 0, .int 0, .int 0, .int 0, .null, .int 0, .int 0, .int 0, .int 0, .int 0])), (q8, .inl (cy 0, (1480, .inl (fun _ => 0)))), (q9, .inl (cy 1, (512, .inl (fun _ => 0)))), (q10, .inl (cy 1, (512, .inl (fun _ => 0)))), (q11, .inl (cy 2, (512, .inr (.inl (fun _ => 0)))))] H locs := hr
  refine lv_aload_n F.1 F.2.1 dX11_init_91 rfl (lv_at hl 0 rfl) ?_
  refine lv_bipush (v := (16 : Int32)) F.1 F.2.1 dX11_init_92 (by decide) ?_
  refine zc_newa (atype := .int) (ty := .int) (N' := 16) (t0 := 1) (a0 := (16, .inl (fun _ => 0))) rfl rfl zq_192 F hr (fun cA => zarr_int cA _) (by decide) (by decide) (Nat.le_of_ble_eq_true rfl) (Nat.le_of_ble_eq_true rfl) (Nat.le_of_ble_eq_true rfl) dX11_init_94 (fun q12 H hr => ?_)
  have hr : zRC D cy (fun _ _ => 0) [] A s.heap zz0 [(h0, .inr (11, [.ref q1, .int 0, .ref q2, .int 0, .int 0, .int 0, .int 0, .int 0, .int 0, .ref q3, .ref q4, .null, .int 0, .ref q5, .ref q7, .int 0, .ref q9, .ref q10, .ref q11, .int 0, .null])), (q1, .inl (cy 9, (24, .inr (.inr (.inr (.inr (fun _ => none))))))), (q2, .inl (cy 10, (16, .inr (.inr (.inr (.inr (fun _ => none))))))), (q3, .inl (cy 6, (256, .inr (.inr (.inr (.inr (fun _ => none))))))), (q4, .inl (cy 6, (256, .inr (.inr (.inr (.inr (fun _ => none))))))), (q5, .inr (7, [.int 0, .int 0, .int 0, .int 0, .int 0, .int 0, .int 0, .int 0, .ref q6, .int 0, .int 0, .int 0, .int 0, .int 0, .null, .int 0, .int 0, .int 0, .int 0, .int 0])), (q6, .inl (cy 0, (1480, .inl (fun _ => 0)))), (q7, .inr (7, [.int 0, .int 0, .int 0, .int 0, .int 0, .int 0, .int 0, .int 0, .ref q8, .int 0, .int 0, .int 0, .int 0, .int 0, .null, .int 0, .int 0, .int 0, .int 0, .int 0])), (q8, .inl (cy 0, (1480, .inl (fun _ => 0)))), (q9, .inl (cy 1, (512, .inl (fun _ => 0)))), (q10, .inl (cy 1, (512, .inl (fun _ => 0)))), (q11, .inl (cy 2, (512, .inr (.inl (fun _ => 0))))), (q12, .inl (cy 1, (16, .inl (fun _ => 0))))] H _ := hr
  refine zc_putF (k := 11) (j := 20) (T := TX11) (N := 21) (v := .ref q12) tyX11 tyX11_ok nmX11 rfl inX11 (by decide) zq_214 rfl rfl rfl F hin hr 0 rfl dX11_init_96 rfl rfl (Nat.le_of_ble_eq_true rfl) (fun H locs hr => ?_)
  have hr : zRC D cy (fun _ _ => 0) [] A s.heap zz0 [(h0, .inr (11, [.ref q1, .int 0, .ref q2, .int 0, .int 0, .int 0, .int 0, .int 0, .int 0, .ref q3, .ref q4, .null, .int 0, .ref q5, .ref q7, .int 0, .ref q9, .ref q10, .ref q11, .int 0, .ref q12])), (q1, .inl (cy 9, (24, .inr (.inr (.inr (.inr (fun _ => none))))))), (q2, .inl (cy 10, (16, .inr (.inr (.inr (.inr (fun _ => none))))))), (q3, .inl (cy 6, (256, .inr (.inr (.inr (.inr (fun _ => none))))))), (q4, .inl (cy 6, (256, .inr (.inr (.inr (.inr (fun _ => none))))))), (q5, .inr (7, [.int 0, .int 0, .int 0, .int 0, .int 0, .int 0, .int 0, .int 0, .ref q6, .int 0, .int 0, .int 0, .int 0, .int 0, .null, .int 0, .int 0, .int 0, .int 0, .int 0])), (q6, .inl (cy 0, (1480, .inl (fun _ => 0)))), (q7, .inr (7, [.int 0, .int 0, .int 0, .int 0, .int 0, .int 0, .int 0, .int 0, .ref q8, .int 0, .int 0, .int 0, .int 0, .int 0, .null, .int 0, .int 0, .int 0, .int 0, .int 0])), (q8, .inl (cy 0, (1480, .inl (fun _ => 0)))), (q9, .inl (cy 1, (512, .inl (fun _ => 0)))), (q10, .inl (cy 1, (512, .inl (fun _ => 0)))), (q11, .inl (cy 2, (512, .inr (.inl (fun _ => 0))))), (q12, .inl (cy 1, (16, .inl (fun _ => 0))))] H locs := hr
  obtain ⟨B0, hB0, hcB, hst, hD0, h9, hr⟩ := zmkX11 (ids := []) (B := fun _ _ => 0) ⟨List.nodup_nil, ⟨fun _ _ _ h => absurd h List.not_mem_nil, fun _ _ _ h => absurd h List.not_mem_nil⟩, fun _ _ _ _ h => absurd h List.not_mem_nil⟩ (fun _ h => absurd h List.not_mem_nil) 0 ⟨by decide, fun _ _ => List.not_mem_nil⟩ hr
  have F := zFk_x F hst hD0
  generalize eI0 : [] ++ znmX11 0 = I0 at hst hD0 h9 hr F
  obtain ⟨z0, ez0⟩ : ∃ y, y = zmg (znmX11 0) (zmwX11 0) zz0 := ⟨_, rfl⟩
  rw [← ez0] at hr
  replace h := zl_sub ez0 h
  replace h := zl_sub eI0.symm h
  have hn0 : (11, 0) ∈ I0 := eI0 ▸ List.mem_of_getElem? (l := [] ++ znmX11 0) (i := 0) rfl
  have hnX0 := hn0
  have hx := zExt_rf B0 I0
  replace hl : lv_has ls 3 [(0, .ref (B0 11 0))] := by
    rw [hcB]; exact hl
  refine lv_iconst (v := (0 : Int32)) F.1 F.2.1 dX11_init_99 (by decide) ?_
  refine lv_istore_n (lv' := [(1, .int (0 : Int32)), (0, .ref (B0 11 0))]) F.1 F.2.1 dX11_init_100 rfl hl (by decide) rfl (fun ls hl => ?_)
  refine lv_iload_n F.1 F.2.1 dX11_init_101 rfl (lv_at hl 0 rfl) ?_
  refine lv_bipush (v := (24 : Int32)) F.1 F.2.1 dX11_init_102 (by decide) ?_
  refine lv_icmp_ge (tgt := 127) F.1 F.2.1 dX11_init_104 (by decide) (fun hc => absurd hc (by decide)) (fun _ => ?_)
  refine lv_aload_n F.1 F.2.1 dX11_init_107 rfl (lv_at hl 1 rfl) ?_
  refine gf11_11 F hn0 hr dX11_init_108 ?_
  refine lv_iload_n F.1 F.2.1 dX11_init_111 rfl (lv_at hl 0 rfl) ?_
  obtain ⟨n1, en1⟩ : ∃ y : Nat, y = 0 := ⟨_, rfl⟩
  replace h := zl_sub en1 h
  replace h := zqc_some h
  obtain ⟨hfr1, h⟩ := h
  refine zc_new (k := 5) (T := TX5) (N := 11) (fs := [.int 0, .int 0, .int 0, .int 0, .null, .int 0, .int 0, .null, .int 0, .int 0, .int 0]) tyX5 tyX5_ok rfl inX5 zq_37 zq_140 zq_3 (zFx_k F hA) (zRC_of F hr) (by decide +kernel) (Nat.le_trans (Nat.le_of_ble_eq_true rfl) hca) (Nat.le_trans (Nat.le_of_ble_eq_true rfl) hcb) dX11_init_112 (fun q H hq => ?_)
  have hr := zRC_rep hq
  refine lv_dup F.1 F.2.1 dX11_init_115 rfl ?_
  refine lv_iload_n F.1 F.2.1 dX11_init_116 rfl (lv_at hl 0 rfl) ?_
  refine zK_callN (cs := []) (As := [.int (0 : Int32)]) (rest := [.ref q, .int (0 : Int32), .ref (B0 139 0)]) hAO zn_141 rfl zq_142 zq_143 zq_3 hdX5_init (okX5_init l D cy q (0 : Int32)) (zFx_k F hA) hq hl.1 rfl (Nat.le_of_ble_eq_true rfl) dX11_init_117 ⟨Nat.le_of_ble_eq_true rfl, Nat.le_of_ble_eq_true rfl⟩ ⟨Nat.le_trans (Nat.le_of_ble_eq_true rfl) hca, Nat.le_trans (Nat.le_of_ble_eq_true rfl) hcb⟩ (fun H locs cs1 hp hq => ?_)
  obtain ⟨w1, w2, rfl⟩ := hp
  obtain ⟨B1, hB1, eo1, hst, hD1, h9, hr⟩ := zmkX5 hst h9 n1 (0 : Int32) hfr1 hq
  clear hq
  generalize eI1 : I0 ++ znmX5 n1 = I1 at hst hD1 h9 hr
  have F0 := F
  have F := zFx_nx F hst hD1
  have hi1 : ∀ k o, (k, o) ∈ I0 → (k, o) ∈ I1 := fun k o h => eI1 ▸ List.mem_append_left _ h
  have hn1 : (5, n1) ∈ I1 := eI1 ▸ List.mem_append_right _ (List.mem_of_getElem? (l := znmX5 n1) (i := 0) rfl)
  have hcB := (hB1 11 0 hnX0).trans hcB
  have hnX0 := hi1 _ _ hnX0
  obtain ⟨z1, ez1⟩ : ∃ y, y = zmg (znmX5 n1) (zmwX5 n1 (0 : Int32)) z0 := ⟨_, rfl⟩
  rw [← ez1] at hr
  replace h := zl_sub ez1 h
  clear ez1
  replace h := zl_sub eI1.symm h
  have ha1_0 : (11, 0) ∈ I1 := hi1 _ _ hn0
  have ha1_1 : (139, 0) ∈ I1 := hi1 _ _ (zal_a F0 hn0 (j := 0) rfl)
  replace hl : lv_has ls 3 [(1, .int (0 : Int32)), (0, .ref (B1 11 0))] := by
            rw [hB1 11 0 hn0]; exact hl
  rw [← hB1 139 0 (zal_a F0 hn0 (j := 0) rfl)]
  subst eo1
  refine zr_aast (k := 139) (v := (some n1)) (T := TX5) (N := 11) (by decide) rfl (by decide) rfl rfl F ha1_1 hr dX11_init_120 (by rw [zlen_d (by decide)]; exact (by unfold vp_in; decide)) (zal_s hn1) (fun H locs z3 ez3 hr => ?_)
  replace h := zl_sub ez3 h
  clear ez3
  refine lv_iinc (v := (1 : Int32)) (lv' := [(1, .int (1 : Int32)), (0, .ref (B1 11 0))]) F.1 F.2.1 dX11_init_121 hl (k := 0) rfl (by decide) (by decide) rfl (fun ls hl => ?_)
  refine lv_goto (tgt := 101) F.1 F.2.1 dX11_init_124 (by decide) ?_
  refine lv_iload_n F.1 F.2.1 dX11_init_101 rfl (lv_at hl 0 rfl) ?_
  refine lv_bipush (v := (24 : Int32)) F.1 F.2.1 dX11_init_102 (by decide) ?_
  refine lv_icmp_ge (tgt := 127) F.1 F.2.1 dX11_init_104 (by decide) (fun hc => absurd hc (by decide)) (fun _ => ?_)
  refine lv_aload_n F.1 F.2.1 dX11_init_107 rfl (lv_at hl 1 rfl) ?_
  refine gf11_11 F ha1_0 hr dX11_init_108 ?_
  refine lv_iload_n F.1 F.2.1 dX11_init_111 rfl (lv_at hl 0 rfl) ?_
  obtain ⟨n2, en2⟩ : ∃ y : Nat, y = 1 := ⟨_, rfl⟩
  replace h := zl_sub en2 h
  replace h := zqc_some h
  obtain ⟨hfr2, h⟩ := h
  refine zc_new (k := 5) (T := TX5) (N := 11) (fs := [.int 0, .int 0, .int 0, .int 0, .null, .int 0, .int 0, .null, .int 0, .int 0, .int 0]) tyX5 tyX5_ok rfl inX5 zq_37 zq_140 zq_3 (zFx_k F hA) (zRC_of F hr) (by decide +kernel) (Nat.le_trans (Nat.le_of_ble_eq_true rfl) hca) (Nat.le_trans (Nat.le_of_ble_eq_true rfl) hcb) dX11_init_112 (fun q H hq => ?_)
  have hr := zRC_rep hq
  refine lv_dup F.1 F.2.1 dX11_init_115 rfl ?_
  refine lv_iload_n F.1 F.2.1 dX11_init_116 rfl (lv_at hl 0 rfl) ?_
  refine zK_callN (cs := []) (As := [.int (1 : Int32)]) (rest := [.ref q, .int (1 : Int32), .ref (B1 139 0)]) hAO zn_141 rfl zq_142 zq_143 zq_3 hdX5_init (okX5_init l D cy q (1 : Int32)) (zFx_k F hA) hq hl.1 rfl (Nat.le_of_ble_eq_true rfl) dX11_init_117 ⟨Nat.le_of_ble_eq_true rfl, Nat.le_of_ble_eq_true rfl⟩ ⟨Nat.le_trans (Nat.le_of_ble_eq_true rfl) hca, Nat.le_trans (Nat.le_of_ble_eq_true rfl) hcb⟩ (fun H locs cs1 hp hq => ?_)
  obtain ⟨w1, w2, rfl⟩ := hp
  obtain ⟨B2, hB2, eo2, hst, hD2, h9, hr⟩ := zmkX5 hst h9 n2 (1 : Int32) hfr2 hq
  clear hq
  generalize eI2 : I1 ++ znmX5 n2 = I2 at hst hD2 h9 hr
  have F0 := F
  have F := zFx_nx F hst hD2
  have hi2 : ∀ k o, (k, o) ∈ I1 → (k, o) ∈ I2 := fun k o h => eI2 ▸ List.mem_append_left _ h
  have hn2 : (5, n2) ∈ I2 := eI2 ▸ List.mem_append_right _ (List.mem_of_getElem? (l := znmX5 n2) (i := 0) rfl)
  have hcB := (hB2 11 0 hnX0).trans hcB
  have hnX0 := hi2 _ _ hnX0
  obtain ⟨z4, ez4⟩ : ∃ y, y = zmg (znmX5 n2) (zmwX5 n2 (1 : Int32)) z3 := ⟨_, rfl⟩
  rw [← ez4] at hr
  replace h := zl_sub ez4 h
  clear ez4
  replace h := zl_sub eI2.symm h
  have ha2_0 : (11, 0) ∈ I2 := hi2 _ _ ha1_0
  have ha2_1 : (139, 0) ∈ I2 := hi2 _ _ (zal_a F0 ha1_0 (j := 0) rfl)
  replace hl : lv_has ls 3 [(1, .int (1 : Int32)), (0, .ref (B2 11 0))] := by
            rw [hB2 11 0 ha1_0]; exact hl
  rw [← hB2 139 0 (zal_a F0 ha1_0 (j := 0) rfl)]
  subst eo2
  refine zr_aast (k := 139) (v := (some n2)) (T := TX5) (N := 11) (by decide) rfl (by decide) rfl rfl F ha2_1 hr dX11_init_120 (by rw [zlen_d (by decide)]; exact (by unfold vp_in; decide)) (zal_s hn2) (fun H locs z6 ez6 hr => ?_)
  replace h := zl_sub ez6 h
  clear ez6
  refine lv_iinc (v := (2 : Int32)) (lv' := [(1, .int (2 : Int32)), (0, .ref (B2 11 0))]) F.1 F.2.1 dX11_init_121 hl (k := 0) rfl (by decide) (by decide) rfl (fun ls hl => ?_)
  refine lv_goto (tgt := 101) F.1 F.2.1 dX11_init_124 (by decide) ?_
  refine lv_iload_n F.1 F.2.1 dX11_init_101 rfl (lv_at hl 0 rfl) ?_
  refine lv_bipush (v := (24 : Int32)) F.1 F.2.1 dX11_init_102 (by decide) ?_
  refine lv_icmp_ge (tgt := 127) F.1 F.2.1 dX11_init_104 (by decide) (fun hc => absurd hc (by decide)) (fun _ => ?_)
  refine lv_aload_n F.1 F.2.1 dX11_init_107 rfl (lv_at hl 1 rfl) ?_
  refine gf11_11 F ha2_0 hr dX11_init_108 ?_
  refine lv_iload_n F.1 F.2.1 dX11_init_111 rfl (lv_at hl 0 rfl) ?_
  obtain ⟨n3, en3⟩ : ∃ y : Nat, y = 2 := ⟨_, rfl⟩
  replace h := zl_sub en3 h
  replace h := zqc_some h
  obtain ⟨hfr3, h⟩ := h
  refine zc_new (k := 5) (T := TX5) (N := 11) (fs := [.int 0, .int 0, .int 0, .int 0, .null, .int 0, .int 0, .null, .int 0, .int 0, .int 0]) tyX5 tyX5_ok rfl inX5 zq_37 zq_140 zq_3 (zFx_k F hA) (zRC_of F hr) (by decide +kernel) (Nat.le_trans (Nat.le_of_ble_eq_true rfl) hca) (Nat.le_trans (Nat.le_of_ble_eq_true rfl) hcb) dX11_init_112 (fun q H hq => ?_)
  have hr := zRC_rep hq
  refine lv_dup F.1 F.2.1 dX11_init_115 rfl ?_
  refine lv_iload_n F.1 F.2.1 dX11_init_116 rfl (lv_at hl 0 rfl) ?_
  refine zK_callN (cs := []) (As := [.int (2 : Int32)]) (rest := [.ref q, .int (2 : Int32), .ref (B2 139 0)]) hAO zn_141 rfl zq_142 zq_143 zq_3 hdX5_init (okX5_init l D cy q (2 : Int32)) (zFx_k F hA) hq hl.1 rfl (Nat.le_of_ble_eq_true rfl) dX11_init_117 ⟨Nat.le_of_ble_eq_true rfl, Nat.le_of_ble_eq_true rfl⟩ ⟨Nat.le_trans (Nat.le_of_ble_eq_true rfl) hca, Nat.le_trans (Nat.le_of_ble_eq_true rfl) hcb⟩ (fun H locs cs1 hp hq => ?_)
  obtain ⟨w1, w2, rfl⟩ := hp
  obtain ⟨B3, hB3, eo3, hst, hD3, h9, hr⟩ := zmkX5 hst h9 n3 (2 : Int32) hfr3 hq
  clear hq
  generalize eI3 : I2 ++ znmX5 n3 = I3 at hst hD3 h9 hr
  have F0 := F
  have F := zFx_nx F hst hD3
  have hi3 : ∀ k o, (k, o) ∈ I2 → (k, o) ∈ I3 := fun k o h => eI3 ▸ List.mem_append_left _ h
  have hn3 : (5, n3) ∈ I3 := eI3 ▸ List.mem_append_right _ (List.mem_of_getElem? (l := znmX5 n3) (i := 0) rfl)
  have hcB := (hB3 11 0 hnX0).trans hcB
  have hnX0 := hi3 _ _ hnX0
  obtain ⟨z7, ez7⟩ : ∃ y, y = zmg (znmX5 n3) (zmwX5 n3 (2 : Int32)) z6 := ⟨_, rfl⟩
  rw [← ez7] at hr
  replace h := zl_sub ez7 h
  clear ez7
  replace h := zl_sub eI3.symm h
  have ha3_0 : (11, 0) ∈ I3 := hi3 _ _ ha2_0
  have ha3_1 : (139, 0) ∈ I3 := hi3 _ _ (zal_a F0 ha2_0 (j := 0) rfl)
  replace hl : lv_has ls 3 [(1, .int (2 : Int32)), (0, .ref (B3 11 0))] := by
            rw [hB3 11 0 ha2_0]; exact hl
  rw [← hB3 139 0 (zal_a F0 ha2_0 (j := 0) rfl)]
  subst eo3
  refine zr_aast (k := 139) (v := (some n3)) (T := TX5) (N := 11) (by decide) rfl (by decide) rfl rfl F ha3_1 hr dX11_init_120 (by rw [zlen_d (by decide)]; exact (by unfold vp_in; decide)) (zal_s hn3) (fun H locs z9 ez9 hr => ?_)
  replace h := zl_sub ez9 h
  clear ez9
  refine lv_iinc (v := (3 : Int32)) (lv' := [(1, .int (3 : Int32)), (0, .ref (B3 11 0))]) F.1 F.2.1 dX11_init_121 hl (k := 0) rfl (by decide) (by decide) rfl (fun ls hl => ?_)
  refine lv_goto (tgt := 101) F.1 F.2.1 dX11_init_124 (by decide) ?_
  refine lv_iload_n F.1 F.2.1 dX11_init_101 rfl (lv_at hl 0 rfl) ?_
  refine lv_bipush (v := (24 : Int32)) F.1 F.2.1 dX11_init_102 (by decide) ?_
  refine lv_icmp_ge (tgt := 127) F.1 F.2.1 dX11_init_104 (by decide) (fun hc => absurd hc (by decide)) (fun _ => ?_)
  refine lv_aload_n F.1 F.2.1 dX11_init_107 rfl (lv_at hl 1 rfl) ?_
  refine gf11_11 F ha3_0 hr dX11_init_108 ?_
  refine lv_iload_n F.1 F.2.1 dX11_init_111 rfl (lv_at hl 0 rfl) ?_
  obtain ⟨n4, en4⟩ : ∃ y : Nat, y = 3 := ⟨_, rfl⟩
  replace h := zl_sub en4 h
  replace h := zqc_some h
  obtain ⟨hfr4, h⟩ := h
  refine zc_new (k := 5) (T := TX5) (N := 11) (fs := [.int 0, .int 0, .int 0, .int 0, .null, .int 0, .int 0, .null, .int 0, .int 0, .int 0]) tyX5 tyX5_ok rfl inX5 zq_37 zq_140 zq_3 (zFx_k F hA) (zRC_of F hr) (by decide +kernel) (Nat.le_trans (Nat.le_of_ble_eq_true rfl) hca) (Nat.le_trans (Nat.le_of_ble_eq_true rfl) hcb) dX11_init_112 (fun q H hq => ?_)
  have hr := zRC_rep hq
  refine lv_dup F.1 F.2.1 dX11_init_115 rfl ?_
  refine lv_iload_n F.1 F.2.1 dX11_init_116 rfl (lv_at hl 0 rfl) ?_
  refine zK_callN (cs := []) (As := [.int (3 : Int32)]) (rest := [.ref q, .int (3 : Int32), .ref (B3 139 0)]) hAO zn_141 rfl zq_142 zq_143 zq_3 hdX5_init (okX5_init l D cy q (3 : Int32)) (zFx_k F hA) hq hl.1 rfl (Nat.le_of_ble_eq_true rfl) dX11_init_117 ⟨Nat.le_of_ble_eq_true rfl, Nat.le_of_ble_eq_true rfl⟩ ⟨Nat.le_trans (Nat.le_of_ble_eq_true rfl) hca, Nat.le_trans (Nat.le_of_ble_eq_true rfl) hcb⟩ (fun H locs cs1 hp hq => ?_)
  obtain ⟨w1, w2, rfl⟩ := hp
  obtain ⟨B4, hB4, eo4, hst, hD4, h9, hr⟩ := zmkX5 hst h9 n4 (3 : Int32) hfr4 hq
  clear hq
  generalize eI4 : I3 ++ znmX5 n4 = I4 at hst hD4 h9 hr
  have F0 := F
  have F := zFx_nx F hst hD4
  have hi4 : ∀ k o, (k, o) ∈ I3 → (k, o) ∈ I4 := fun k o h => eI4 ▸ List.mem_append_left _ h
  have hn4 : (5, n4) ∈ I4 := eI4 ▸ List.mem_append_right _ (List.mem_of_getElem? (l := znmX5 n4) (i := 0) rfl)
  have hcB := (hB4 11 0 hnX0).trans hcB
  have hnX0 := hi4 _ _ hnX0
  obtain ⟨z10, ez10⟩ : ∃ y, y = zmg (znmX5 n4) (zmwX5 n4 (3 : Int32)) z9 := ⟨_, rfl⟩
  rw [← ez10] at hr
  replace h := zl_sub ez10 h
  clear ez10
  replace h := zl_sub eI4.symm h
  have ha4_0 : (11, 0) ∈ I4 := hi4 _ _ ha3_0
  have ha4_1 : (139, 0) ∈ I4 := hi4 _ _ (zal_a F0 ha3_0 (j := 0) rfl)
  replace hl : lv_has ls 3 [(1, .int (3 : Int32)), (0, .ref (B4 11 0))] := by
            rw [hB4 11 0 ha3_0]; exact hl
  rw [← hB4 139 0 (zal_a F0 ha3_0 (j := 0) rfl)]
  subst eo4
  refine zr_aast (k := 139) (v := (some n4)) (T := TX5) (N := 11) (by decide) rfl (by decide) rfl rfl F ha4_1 hr dX11_init_120 (by rw [zlen_d (by decide)]; exact (by unfold vp_in; decide)) (zal_s hn4) (fun H locs z12 ez12 hr => ?_)
  replace h := zl_sub ez12 h
  clear ez12
  refine lv_iinc (v := (4 : Int32)) (lv' := [(1, .int (4 : Int32)), (0, .ref (B4 11 0))]) F.1 F.2.1 dX11_init_121 hl (k := 0) rfl (by decide) (by decide) rfl (fun ls hl => ?_)
  refine lv_goto (tgt := 101) F.1 F.2.1 dX11_init_124 (by decide) ?_
  refine lv_iload_n F.1 F.2.1 dX11_init_101 rfl (lv_at hl 0 rfl) ?_
  refine lv_bipush (v := (24 : Int32)) F.1 F.2.1 dX11_init_102 (by decide) ?_
  refine lv_icmp_ge (tgt := 127) F.1 F.2.1 dX11_init_104 (by decide) (fun hc => absurd hc (by decide)) (fun _ => ?_)
  refine lv_aload_n F.1 F.2.1 dX11_init_107 rfl (lv_at hl 1 rfl) ?_
  refine gf11_11 F ha4_0 hr dX11_init_108 ?_
  refine lv_iload_n F.1 F.2.1 dX11_init_111 rfl (lv_at hl 0 rfl) ?_
  obtain ⟨n5, en5⟩ : ∃ y : Nat, y = 4 := ⟨_, rfl⟩
  replace h := zl_sub en5 h
  replace h := zqc_some h
  obtain ⟨hfr5, h⟩ := h
  refine zc_new (k := 5) (T := TX5) (N := 11) (fs := [.int 0, .int 0, .int 0, .int 0, .null, .int 0, .int 0, .null, .int 0, .int 0, .int 0]) tyX5 tyX5_ok rfl inX5 zq_37 zq_140 zq_3 (zFx_k F hA) (zRC_of F hr) (by decide +kernel) (Nat.le_trans (Nat.le_of_ble_eq_true rfl) hca) (Nat.le_trans (Nat.le_of_ble_eq_true rfl) hcb) dX11_init_112 (fun q H hq => ?_)
  have hr := zRC_rep hq
  refine lv_dup F.1 F.2.1 dX11_init_115 rfl ?_
  refine lv_iload_n F.1 F.2.1 dX11_init_116 rfl (lv_at hl 0 rfl) ?_
  refine zK_callN (cs := []) (As := [.int (4 : Int32)]) (rest := [.ref q, .int (4 : Int32), .ref (B4 139 0)]) hAO zn_141 rfl zq_142 zq_143 zq_3 hdX5_init (okX5_init l D cy q (4 : Int32)) (zFx_k F hA) hq hl.1 rfl (Nat.le_of_ble_eq_true rfl) dX11_init_117 ⟨Nat.le_of_ble_eq_true rfl, Nat.le_of_ble_eq_true rfl⟩ ⟨Nat.le_trans (Nat.le_of_ble_eq_true rfl) hca, Nat.le_trans (Nat.le_of_ble_eq_true rfl) hcb⟩ (fun H locs cs1 hp hq => ?_)
  obtain ⟨w1, w2, rfl⟩ := hp
  obtain ⟨B5, hB5, eo5, hst, hD5, h9, hr⟩ := zmkX5 hst h9 n5 (4 : Int32) hfr5 hq
  clear hq
  generalize eI5 : I4 ++ znmX5 n5 = I5 at hst hD5 h9 hr
  have F0 := F
  have F := zFx_nx F hst hD5
  have hi5 : ∀ k o, (k, o) ∈ I4 → (k, o) ∈ I5 := fun k o h => eI5 ▸ List.mem_append_left _ h
  have hn5 : (5, n5) ∈ I5 := eI5 ▸ List.mem_append_right _ (List.mem_of_getElem? (l := znmX5 n5) (i := 0) rfl)
  have hcB := (hB5 11 0 hnX0).trans hcB
  have hnX0 := hi5 _ _ hnX0
  obtain ⟨z13, ez13⟩ : ∃ y, y = zmg (znmX5 n5) (zmwX5 n5 (4 : Int32)) z12 := ⟨_, rfl⟩
  rw [← ez13] at hr
  replace h := zl_sub ez13 h
  clear ez13
  replace h := zl_sub eI5.symm h
  have ha5_0 : (11, 0) ∈ I5 := hi5 _ _ ha4_0
  have ha5_1 : (139, 0) ∈ I5 := hi5 _ _ (zal_a F0 ha4_0 (j := 0) rfl)
  replace hl : lv_has ls 3 [(1, .int (4 : Int32)), (0, .ref (B5 11 0))] := by
            rw [hB5 11 0 ha4_0]; exact hl
  rw [← hB5 139 0 (zal_a F0 ha4_0 (j := 0) rfl)]
  subst eo5
  refine zr_aast (k := 139) (v := (some n5)) (T := TX5) (N := 11) (by decide) rfl (by decide) rfl rfl F ha5_1 hr dX11_init_120 (by rw [zlen_d (by decide)]; exact (by unfold vp_in; decide)) (zal_s hn5) (fun H locs z15 ez15 hr => ?_)
  replace h := zl_sub ez15 h
  clear ez15
  refine lv_iinc (v := (5 : Int32)) (lv' := [(1, .int (5 : Int32)), (0, .ref (B5 11 0))]) F.1 F.2.1 dX11_init_121 hl (k := 0) rfl (by decide) (by decide) rfl (fun ls hl => ?_)
  refine lv_goto (tgt := 101) F.1 F.2.1 dX11_init_124 (by decide) ?_
  refine lv_iload_n F.1 F.2.1 dX11_init_101 rfl (lv_at hl 0 rfl) ?_
  refine lv_bipush (v := (24 : Int32)) F.1 F.2.1 dX11_init_102 (by decide) ?_
  refine lv_icmp_ge (tgt := 127) F.1 F.2.1 dX11_init_104 (by decide) (fun hc => absurd hc (by decide)) (fun _ => ?_)
  refine lv_aload_n F.1 F.2.1 dX11_init_107 rfl (lv_at hl 1 rfl) ?_
  refine gf11_11 F ha5_0 hr dX11_init_108 ?_
  refine lv_iload_n F.1 F.2.1 dX11_init_111 rfl (lv_at hl 0 rfl) ?_
  obtain ⟨n6, en6⟩ : ∃ y : Nat, y = 5 := ⟨_, rfl⟩
  replace h := zl_sub en6 h
  replace h := zqc_some h
  obtain ⟨hfr6, h⟩ := h
  refine zc_new (k := 5) (T := TX5) (N := 11) (fs := [.int 0, .int 0, .int 0, .int 0, .null, .int 0, .int 0, .null, .int 0, .int 0, .int 0]) tyX5 tyX5_ok rfl inX5 zq_37 zq_140 zq_3 (zFx_k F hA) (zRC_of F hr) (by decide +kernel) (Nat.le_trans (Nat.le_of_ble_eq_true rfl) hca) (Nat.le_trans (Nat.le_of_ble_eq_true rfl) hcb) dX11_init_112 (fun q H hq => ?_)
  have hr := zRC_rep hq
  refine lv_dup F.1 F.2.1 dX11_init_115 rfl ?_
  refine lv_iload_n F.1 F.2.1 dX11_init_116 rfl (lv_at hl 0 rfl) ?_
  refine zK_callN (cs := []) (As := [.int (5 : Int32)]) (rest := [.ref q, .int (5 : Int32), .ref (B5 139 0)]) hAO zn_141 rfl zq_142 zq_143 zq_3 hdX5_init (okX5_init l D cy q (5 : Int32)) (zFx_k F hA) hq hl.1 rfl (Nat.le_of_ble_eq_true rfl) dX11_init_117 ⟨Nat.le_of_ble_eq_true rfl, Nat.le_of_ble_eq_true rfl⟩ ⟨Nat.le_trans (Nat.le_of_ble_eq_true rfl) hca, Nat.le_trans (Nat.le_of_ble_eq_true rfl) hcb⟩ (fun H locs cs1 hp hq => ?_)
  obtain ⟨w1, w2, rfl⟩ := hp
  obtain ⟨B6, hB6, eo6, hst, hD6, h9, hr⟩ := zmkX5 hst h9 n6 (5 : Int32) hfr6 hq
  clear hq
  generalize eI6 : I5 ++ znmX5 n6 = I6 at hst hD6 h9 hr
  have F0 := F
  have F := zFx_nx F hst hD6
  have hi6 : ∀ k o, (k, o) ∈ I5 → (k, o) ∈ I6 := fun k o h => eI6 ▸ List.mem_append_left _ h
  have hn6 : (5, n6) ∈ I6 := eI6 ▸ List.mem_append_right _ (List.mem_of_getElem? (l := znmX5 n6) (i := 0) rfl)
  have hcB := (hB6 11 0 hnX0).trans hcB
  have hnX0 := hi6 _ _ hnX0
  obtain ⟨z16, ez16⟩ : ∃ y, y = zmg (znmX5 n6) (zmwX5 n6 (5 : Int32)) z15 := ⟨_, rfl⟩
  rw [← ez16] at hr
  replace h := zl_sub ez16 h
  clear ez16
  replace h := zl_sub eI6.symm h
  have ha6_0 : (11, 0) ∈ I6 := hi6 _ _ ha5_0
  have ha6_1 : (139, 0) ∈ I6 := hi6 _ _ (zal_a F0 ha5_0 (j := 0) rfl)
  replace hl : lv_has ls 3 [(1, .int (5 : Int32)), (0, .ref (B6 11 0))] := by
            rw [hB6 11 0 ha5_0]; exact hl
  rw [← hB6 139 0 (zal_a F0 ha5_0 (j := 0) rfl)]
  subst eo6
  refine zr_aast (k := 139) (v := (some n6)) (T := TX5) (N := 11) (by decide) rfl (by decide) rfl rfl F ha6_1 hr dX11_init_120 (by rw [zlen_d (by decide)]; exact (by unfold vp_in; decide)) (zal_s hn6) (fun H locs z18 ez18 hr => ?_)
  replace h := zl_sub ez18 h
  clear ez18
  refine lv_iinc (v := (6 : Int32)) (lv' := [(1, .int (6 : Int32)), (0, .ref (B6 11 0))]) F.1 F.2.1 dX11_init_121 hl (k := 0) rfl (by decide) (by decide) rfl (fun ls hl => ?_)
  refine lv_goto (tgt := 101) F.1 F.2.1 dX11_init_124 (by decide) ?_
  refine lv_iload_n F.1 F.2.1 dX11_init_101 rfl (lv_at hl 0 rfl) ?_
  refine lv_bipush (v := (24 : Int32)) F.1 F.2.1 dX11_init_102 (by decide) ?_
  refine lv_icmp_ge (tgt := 127) F.1 F.2.1 dX11_init_104 (by decide) (fun hc => absurd hc (by decide)) (fun _ => ?_)
  refine lv_aload_n F.1 F.2.1 dX11_init_107 rfl (lv_at hl 1 rfl) ?_
  refine gf11_11 F ha6_0 hr dX11_init_108 ?_
  refine lv_iload_n F.1 F.2.1 dX11_init_111 rfl (lv_at hl 0 rfl) ?_
  obtain ⟨n7, en7⟩ : ∃ y : Nat, y = 6 := ⟨_, rfl⟩
  replace h := zl_sub en7 h
  replace h := zqc_some h
  obtain ⟨hfr7, h⟩ := h
  refine zc_new (k := 5) (T := TX5) (N := 11) (fs := [.int 0, .int 0, .int 0, .int 0, .null, .int 0, .int 0, .null, .int 0, .int 0, .int 0]) tyX5 tyX5_ok rfl inX5 zq_37 zq_140 zq_3 (zFx_k F hA) (zRC_of F hr) (by decide +kernel) (Nat.le_trans (Nat.le_of_ble_eq_true rfl) hca) (Nat.le_trans (Nat.le_of_ble_eq_true rfl) hcb) dX11_init_112 (fun q H hq => ?_)
  have hr := zRC_rep hq
  refine lv_dup F.1 F.2.1 dX11_init_115 rfl ?_
  refine lv_iload_n F.1 F.2.1 dX11_init_116 rfl (lv_at hl 0 rfl) ?_
  refine zK_callN (cs := []) (As := [.int (6 : Int32)]) (rest := [.ref q, .int (6 : Int32), .ref (B6 139 0)]) hAO zn_141 rfl zq_142 zq_143 zq_3 hdX5_init (okX5_init l D cy q (6 : Int32)) (zFx_k F hA) hq hl.1 rfl (Nat.le_of_ble_eq_true rfl) dX11_init_117 ⟨Nat.le_of_ble_eq_true rfl, Nat.le_of_ble_eq_true rfl⟩ ⟨Nat.le_trans (Nat.le_of_ble_eq_true rfl) hca, Nat.le_trans (Nat.le_of_ble_eq_true rfl) hcb⟩ (fun H locs cs1 hp hq => ?_)
  obtain ⟨w1, w2, rfl⟩ := hp
  obtain ⟨B7, hB7, eo7, hst, hD7, h9, hr⟩ := zmkX5 hst h9 n7 (6 : Int32) hfr7 hq
  clear hq
  generalize eI7 : I6 ++ znmX5 n7 = I7 at hst hD7 h9 hr
  have F0 := F
  have F := zFx_nx F hst hD7
  have hi7 : ∀ k o, (k, o) ∈ I6 → (k, o) ∈ I7 := fun k o h => eI7 ▸ List.mem_append_left _ h
  have hn7 : (5, n7) ∈ I7 := eI7 ▸ List.mem_append_right _ (List.mem_of_getElem? (l := znmX5 n7) (i := 0) rfl)
  have hcB := (hB7 11 0 hnX0).trans hcB
  have hnX0 := hi7 _ _ hnX0
  obtain ⟨z19, ez19⟩ : ∃ y, y = zmg (znmX5 n7) (zmwX5 n7 (6 : Int32)) z18 := ⟨_, rfl⟩
  rw [← ez19] at hr
  replace h := zl_sub ez19 h
  clear ez19
  replace h := zl_sub eI7.symm h
  have ha7_0 : (11, 0) ∈ I7 := hi7 _ _ ha6_0
  have ha7_1 : (139, 0) ∈ I7 := hi7 _ _ (zal_a F0 ha6_0 (j := 0) rfl)
  replace hl : lv_has ls 3 [(1, .int (6 : Int32)), (0, .ref (B7 11 0))] := by
            rw [hB7 11 0 ha6_0]; exact hl
  rw [← hB7 139 0 (zal_a F0 ha6_0 (j := 0) rfl)]
  subst eo7
  refine zr_aast (k := 139) (v := (some n7)) (T := TX5) (N := 11) (by decide) rfl (by decide) rfl rfl F ha7_1 hr dX11_init_120 (by rw [zlen_d (by decide)]; exact (by unfold vp_in; decide)) (zal_s hn7) (fun H locs z21 ez21 hr => ?_)
  replace h := zl_sub ez21 h
  clear ez21
  refine lv_iinc (v := (7 : Int32)) (lv' := [(1, .int (7 : Int32)), (0, .ref (B7 11 0))]) F.1 F.2.1 dX11_init_121 hl (k := 0) rfl (by decide) (by decide) rfl (fun ls hl => ?_)
  refine lv_goto (tgt := 101) F.1 F.2.1 dX11_init_124 (by decide) ?_
  refine lv_iload_n F.1 F.2.1 dX11_init_101 rfl (lv_at hl 0 rfl) ?_
  refine lv_bipush (v := (24 : Int32)) F.1 F.2.1 dX11_init_102 (by decide) ?_
  refine lv_icmp_ge (tgt := 127) F.1 F.2.1 dX11_init_104 (by decide) (fun hc => absurd hc (by decide)) (fun _ => ?_)
  refine lv_aload_n F.1 F.2.1 dX11_init_107 rfl (lv_at hl 1 rfl) ?_
  refine gf11_11 F ha7_0 hr dX11_init_108 ?_
  refine lv_iload_n F.1 F.2.1 dX11_init_111 rfl (lv_at hl 0 rfl) ?_
  obtain ⟨n8, en8⟩ : ∃ y : Nat, y = 7 := ⟨_, rfl⟩
  replace h := zl_sub en8 h
  replace h := zqc_some h
  obtain ⟨hfr8, h⟩ := h
  refine zc_new (k := 5) (T := TX5) (N := 11) (fs := [.int 0, .int 0, .int 0, .int 0, .null, .int 0, .int 0, .null, .int 0, .int 0, .int 0]) tyX5 tyX5_ok rfl inX5 zq_37 zq_140 zq_3 (zFx_k F hA) (zRC_of F hr) (by decide +kernel) (Nat.le_trans (Nat.le_of_ble_eq_true rfl) hca) (Nat.le_trans (Nat.le_of_ble_eq_true rfl) hcb) dX11_init_112 (fun q H hq => ?_)
  have hr := zRC_rep hq
  refine lv_dup F.1 F.2.1 dX11_init_115 rfl ?_
  refine lv_iload_n F.1 F.2.1 dX11_init_116 rfl (lv_at hl 0 rfl) ?_
  refine zK_callN (cs := []) (As := [.int (7 : Int32)]) (rest := [.ref q, .int (7 : Int32), .ref (B7 139 0)]) hAO zn_141 rfl zq_142 zq_143 zq_3 hdX5_init (okX5_init l D cy q (7 : Int32)) (zFx_k F hA) hq hl.1 rfl (Nat.le_of_ble_eq_true rfl) dX11_init_117 ⟨Nat.le_of_ble_eq_true rfl, Nat.le_of_ble_eq_true rfl⟩ ⟨Nat.le_trans (Nat.le_of_ble_eq_true rfl) hca, Nat.le_trans (Nat.le_of_ble_eq_true rfl) hcb⟩ (fun H locs cs1 hp hq => ?_)
  obtain ⟨w1, w2, rfl⟩ := hp
  obtain ⟨B8, hB8, eo8, hst, hD8, h9, hr⟩ := zmkX5 hst h9 n8 (7 : Int32) hfr8 hq
  clear hq
  generalize eI8 : I7 ++ znmX5 n8 = I8 at hst hD8 h9 hr
  have F0 := F
  have F := zFx_nx F hst hD8
  have hi8 : ∀ k o, (k, o) ∈ I7 → (k, o) ∈ I8 := fun k o h => eI8 ▸ List.mem_append_left _ h
  have hn8 : (5, n8) ∈ I8 := eI8 ▸ List.mem_append_right _ (List.mem_of_getElem? (l := znmX5 n8) (i := 0) rfl)
  have hcB := (hB8 11 0 hnX0).trans hcB
  have hnX0 := hi8 _ _ hnX0
  obtain ⟨z22, ez22⟩ : ∃ y, y = zmg (znmX5 n8) (zmwX5 n8 (7 : Int32)) z21 := ⟨_, rfl⟩
  rw [← ez22] at hr
  replace h := zl_sub ez22 h
  clear ez22
  replace h := zl_sub eI8.symm h
  have ha8_0 : (11, 0) ∈ I8 := hi8 _ _ ha7_0
  have ha8_1 : (139, 0) ∈ I8 := hi8 _ _ (zal_a F0 ha7_0 (j := 0) rfl)
  replace hl : lv_has ls 3 [(1, .int (7 : Int32)), (0, .ref (B8 11 0))] := by
            rw [hB8 11 0 ha7_0]; exact hl
  rw [← hB8 139 0 (zal_a F0 ha7_0 (j := 0) rfl)]
  subst eo8
  refine zr_aast (k := 139) (v := (some n8)) (T := TX5) (N := 11) (by decide) rfl (by decide) rfl rfl F ha8_1 hr dX11_init_120 (by rw [zlen_d (by decide)]; exact (by unfold vp_in; decide)) (zal_s hn8) (fun H locs z24 ez24 hr => ?_)
  replace h := zl_sub ez24 h
  clear ez24
  refine lv_iinc (v := (8 : Int32)) (lv' := [(1, .int (8 : Int32)), (0, .ref (B8 11 0))]) F.1 F.2.1 dX11_init_121 hl (k := 0) rfl (by decide) (by decide) rfl (fun ls hl => ?_)
  refine lv_goto (tgt := 101) F.1 F.2.1 dX11_init_124 (by decide) ?_
  refine lv_iload_n F.1 F.2.1 dX11_init_101 rfl (lv_at hl 0 rfl) ?_
  refine lv_bipush (v := (24 : Int32)) F.1 F.2.1 dX11_init_102 (by decide) ?_
  refine lv_icmp_ge (tgt := 127) F.1 F.2.1 dX11_init_104 (by decide) (fun hc => absurd hc (by decide)) (fun _ => ?_)
  refine lv_aload_n F.1 F.2.1 dX11_init_107 rfl (lv_at hl 1 rfl) ?_
  refine gf11_11 F ha8_0 hr dX11_init_108 ?_
  refine lv_iload_n F.1 F.2.1 dX11_init_111 rfl (lv_at hl 0 rfl) ?_
  obtain ⟨n9, en9⟩ : ∃ y : Nat, y = 8 := ⟨_, rfl⟩
  replace h := zl_sub en9 h
  replace h := zqc_some h
  obtain ⟨hfr9, h⟩ := h
  refine zc_new (k := 5) (T := TX5) (N := 11) (fs := [.int 0, .int 0, .int 0, .int 0, .null, .int 0, .int 0, .null, .int 0, .int 0, .int 0]) tyX5 tyX5_ok rfl inX5 zq_37 zq_140 zq_3 (zFx_k F hA) (zRC_of F hr) (by decide +kernel) (Nat.le_trans (Nat.le_of_ble_eq_true rfl) hca) (Nat.le_trans (Nat.le_of_ble_eq_true rfl) hcb) dX11_init_112 (fun q H hq => ?_)
  have hr := zRC_rep hq
  refine lv_dup F.1 F.2.1 dX11_init_115 rfl ?_
  refine lv_iload_n F.1 F.2.1 dX11_init_116 rfl (lv_at hl 0 rfl) ?_
  refine zK_callN (cs := []) (As := [.int (8 : Int32)]) (rest := [.ref q, .int (8 : Int32), .ref (B8 139 0)]) hAO zn_141 rfl zq_142 zq_143 zq_3 hdX5_init (okX5_init l D cy q (8 : Int32)) (zFx_k F hA) hq hl.1 rfl (Nat.le_of_ble_eq_true rfl) dX11_init_117 ⟨Nat.le_of_ble_eq_true rfl, Nat.le_of_ble_eq_true rfl⟩ ⟨Nat.le_trans (Nat.le_of_ble_eq_true rfl) hca, Nat.le_trans (Nat.le_of_ble_eq_true rfl) hcb⟩ (fun H locs cs1 hp hq => ?_)
  obtain ⟨w1, w2, rfl⟩ := hp
  obtain ⟨B9, hB9, eo9, hst, hD9, h9, hr⟩ := zmkX5 hst h9 n9 (8 : Int32) hfr9 hq
  clear hq
  generalize eI9 : I8 ++ znmX5 n9 = I9 at hst hD9 h9 hr
  have F0 := F
  have F := zFx_nx F hst hD9
  have hi9 : ∀ k o, (k, o) ∈ I8 → (k, o) ∈ I9 := fun k o h => eI9 ▸ List.mem_append_left _ h
  have hn9 : (5, n9) ∈ I9 := eI9 ▸ List.mem_append_right _ (List.mem_of_getElem? (l := znmX5 n9) (i := 0) rfl)
  have hcB := (hB9 11 0 hnX0).trans hcB
  have hnX0 := hi9 _ _ hnX0
  obtain ⟨z25, ez25⟩ : ∃ y, y = zmg (znmX5 n9) (zmwX5 n9 (8 : Int32)) z24 := ⟨_, rfl⟩
  rw [← ez25] at hr
  replace h := zl_sub ez25 h
  clear ez25
  replace h := zl_sub eI9.symm h
  have ha9_0 : (11, 0) ∈ I9 := hi9 _ _ ha8_0
  have ha9_1 : (139, 0) ∈ I9 := hi9 _ _ (zal_a F0 ha8_0 (j := 0) rfl)
  replace hl : lv_has ls 3 [(1, .int (8 : Int32)), (0, .ref (B9 11 0))] := by
            rw [hB9 11 0 ha8_0]; exact hl
  rw [← hB9 139 0 (zal_a F0 ha8_0 (j := 0) rfl)]
  subst eo9
  refine zr_aast (k := 139) (v := (some n9)) (T := TX5) (N := 11) (by decide) rfl (by decide) rfl rfl F ha9_1 hr dX11_init_120 (by rw [zlen_d (by decide)]; exact (by unfold vp_in; decide)) (zal_s hn9) (fun H locs z27 ez27 hr => ?_)
  replace h := zl_sub ez27 h
  clear ez27
  refine lv_iinc (v := (9 : Int32)) (lv' := [(1, .int (9 : Int32)), (0, .ref (B9 11 0))]) F.1 F.2.1 dX11_init_121 hl (k := 0) rfl (by decide) (by decide) rfl (fun ls hl => ?_)
  refine lv_goto (tgt := 101) F.1 F.2.1 dX11_init_124 (by decide) ?_
  refine lv_iload_n F.1 F.2.1 dX11_init_101 rfl (lv_at hl 0 rfl) ?_
  refine lv_bipush (v := (24 : Int32)) F.1 F.2.1 dX11_init_102 (by decide) ?_
  refine lv_icmp_ge (tgt := 127) F.1 F.2.1 dX11_init_104 (by decide) (fun hc => absurd hc (by decide)) (fun _ => ?_)
  refine lv_aload_n F.1 F.2.1 dX11_init_107 rfl (lv_at hl 1 rfl) ?_
  refine gf11_11 F ha9_0 hr dX11_init_108 ?_
  refine lv_iload_n F.1 F.2.1 dX11_init_111 rfl (lv_at hl 0 rfl) ?_
  obtain ⟨n10, en10⟩ : ∃ y : Nat, y = 9 := ⟨_, rfl⟩
  replace h := zl_sub en10 h
  replace h := zqc_some h
  obtain ⟨hfr10, h⟩ := h
  refine zc_new (k := 5) (T := TX5) (N := 11) (fs := [.int 0, .int 0, .int 0, .int 0, .null, .int 0, .int 0, .null, .int 0, .int 0, .int 0]) tyX5 tyX5_ok rfl inX5 zq_37 zq_140 zq_3 (zFx_k F hA) (zRC_of F hr) (by decide +kernel) (Nat.le_trans (Nat.le_of_ble_eq_true rfl) hca) (Nat.le_trans (Nat.le_of_ble_eq_true rfl) hcb) dX11_init_112 (fun q H hq => ?_)
  have hr := zRC_rep hq
  refine lv_dup F.1 F.2.1 dX11_init_115 rfl ?_
  refine lv_iload_n F.1 F.2.1 dX11_init_116 rfl (lv_at hl 0 rfl) ?_
  refine zK_callN (cs := []) (As := [.int (9 : Int32)]) (rest := [.ref q, .int (9 : Int32), .ref (B9 139 0)]) hAO zn_141 rfl zq_142 zq_143 zq_3 hdX5_init (okX5_init l D cy q (9 : Int32)) (zFx_k F hA) hq hl.1 rfl (Nat.le_of_ble_eq_true rfl) dX11_init_117 ⟨Nat.le_of_ble_eq_true rfl, Nat.le_of_ble_eq_true rfl⟩ ⟨Nat.le_trans (Nat.le_of_ble_eq_true rfl) hca, Nat.le_trans (Nat.le_of_ble_eq_true rfl) hcb⟩ (fun H locs cs1 hp hq => ?_)
  obtain ⟨w1, w2, rfl⟩ := hp
  obtain ⟨B10, hB10, eo10, hst, hD10, h9, hr⟩ := zmkX5 hst h9 n10 (9 : Int32) hfr10 hq
  clear hq
  generalize eI10 : I9 ++ znmX5 n10 = I10 at hst hD10 h9 hr
  have F0 := F
  have F := zFx_nx F hst hD10
  have hi10 : ∀ k o, (k, o) ∈ I9 → (k, o) ∈ I10 := fun k o h => eI10 ▸ List.mem_append_left _ h
  have hn10 : (5, n10) ∈ I10 := eI10 ▸ List.mem_append_right _ (List.mem_of_getElem? (l := znmX5 n10) (i := 0) rfl)
  have hcB := (hB10 11 0 hnX0).trans hcB
  have hnX0 := hi10 _ _ hnX0
  obtain ⟨z28, ez28⟩ : ∃ y, y = zmg (znmX5 n10) (zmwX5 n10 (9 : Int32)) z27 := ⟨_, rfl⟩
  rw [← ez28] at hr
  replace h := zl_sub ez28 h
  clear ez28
  replace h := zl_sub eI10.symm h
  have ha10_0 : (11, 0) ∈ I10 := hi10 _ _ ha9_0
  have ha10_1 : (139, 0) ∈ I10 := hi10 _ _ (zal_a F0 ha9_0 (j := 0) rfl)
  replace hl : lv_has ls 3 [(1, .int (9 : Int32)), (0, .ref (B10 11 0))] := by
            rw [hB10 11 0 ha9_0]; exact hl
  rw [← hB10 139 0 (zal_a F0 ha9_0 (j := 0) rfl)]
  subst eo10
  refine zr_aast (k := 139) (v := (some n10)) (T := TX5) (N := 11) (by decide) rfl (by decide) rfl rfl F ha10_1 hr dX11_init_120 (by rw [zlen_d (by decide)]; exact (by unfold vp_in; decide)) (zal_s hn10) (fun H locs z30 ez30 hr => ?_)
  replace h := zl_sub ez30 h
  clear ez30
  refine lv_iinc (v := (10 : Int32)) (lv' := [(1, .int (10 : Int32)), (0, .ref (B10 11 0))]) F.1 F.2.1 dX11_init_121 hl (k := 0) rfl (by decide) (by decide) rfl (fun ls hl => ?_)
  refine lv_goto (tgt := 101) F.1 F.2.1 dX11_init_124 (by decide) ?_
  refine lv_iload_n F.1 F.2.1 dX11_init_101 rfl (lv_at hl 0 rfl) ?_
  refine lv_bipush (v := (24 : Int32)) F.1 F.2.1 dX11_init_102 (by decide) ?_
  refine lv_icmp_ge (tgt := 127) F.1 F.2.1 dX11_init_104 (by decide) (fun hc => absurd hc (by decide)) (fun _ => ?_)
  refine lv_aload_n F.1 F.2.1 dX11_init_107 rfl (lv_at hl 1 rfl) ?_
  refine gf11_11 F ha10_0 hr dX11_init_108 ?_
  refine lv_iload_n F.1 F.2.1 dX11_init_111 rfl (lv_at hl 0 rfl) ?_
  obtain ⟨n11, en11⟩ : ∃ y : Nat, y = 10 := ⟨_, rfl⟩
  replace h := zl_sub en11 h
  replace h := zqc_some h
  obtain ⟨hfr11, h⟩ := h
  refine zc_new (k := 5) (T := TX5) (N := 11) (fs := [.int 0, .int 0, .int 0, .int 0, .null, .int 0, .int 0, .null, .int 0, .int 0, .int 0]) tyX5 tyX5_ok rfl inX5 zq_37 zq_140 zq_3 (zFx_k F hA) (zRC_of F hr) (by decide +kernel) (Nat.le_trans (Nat.le_of_ble_eq_true rfl) hca) (Nat.le_trans (Nat.le_of_ble_eq_true rfl) hcb) dX11_init_112 (fun q H hq => ?_)
  have hr := zRC_rep hq
  refine lv_dup F.1 F.2.1 dX11_init_115 rfl ?_
  refine lv_iload_n F.1 F.2.1 dX11_init_116 rfl (lv_at hl 0 rfl) ?_
  refine zK_callN (cs := []) (As := [.int (10 : Int32)]) (rest := [.ref q, .int (10 : Int32), .ref (B10 139 0)]) hAO zn_141 rfl zq_142 zq_143 zq_3 hdX5_init (okX5_init l D cy q (10 : Int32)) (zFx_k F hA) hq hl.1 rfl (Nat.le_of_ble_eq_true rfl) dX11_init_117 ⟨Nat.le_of_ble_eq_true rfl, Nat.le_of_ble_eq_true rfl⟩ ⟨Nat.le_trans (Nat.le_of_ble_eq_true rfl) hca, Nat.le_trans (Nat.le_of_ble_eq_true rfl) hcb⟩ (fun H locs cs1 hp hq => ?_)
  obtain ⟨w1, w2, rfl⟩ := hp
  obtain ⟨B11, hB11, eo11, hst, hD11, h9, hr⟩ := zmkX5 hst h9 n11 (10 : Int32) hfr11 hq
  clear hq
  generalize eI11 : I10 ++ znmX5 n11 = I11 at hst hD11 h9 hr
  have F0 := F
  have F := zFx_nx F hst hD11
  have hi11 : ∀ k o, (k, o) ∈ I10 → (k, o) ∈ I11 := fun k o h => eI11 ▸ List.mem_append_left _ h
  have hn11 : (5, n11) ∈ I11 := eI11 ▸ List.mem_append_right _ (List.mem_of_getElem? (l := znmX5 n11) (i := 0) rfl)
  have hcB := (hB11 11 0 hnX0).trans hcB
  have hnX0 := hi11 _ _ hnX0
  obtain ⟨z31, ez31⟩ : ∃ y, y = zmg (znmX5 n11) (zmwX5 n11 (10 : Int32)) z30 := ⟨_, rfl⟩
  rw [← ez31] at hr
  replace h := zl_sub ez31 h
  clear ez31
  replace h := zl_sub eI11.symm h
  have ha11_0 : (11, 0) ∈ I11 := hi11 _ _ ha10_0
  have ha11_1 : (139, 0) ∈ I11 := hi11 _ _ (zal_a F0 ha10_0 (j := 0) rfl)
  replace hl : lv_has ls 3 [(1, .int (10 : Int32)), (0, .ref (B11 11 0))] := by
            rw [hB11 11 0 ha10_0]; exact hl
  rw [← hB11 139 0 (zal_a F0 ha10_0 (j := 0) rfl)]
  subst eo11
  refine zr_aast (k := 139) (v := (some n11)) (T := TX5) (N := 11) (by decide) rfl (by decide) rfl rfl F ha11_1 hr dX11_init_120 (by rw [zlen_d (by decide)]; exact (by unfold vp_in; decide)) (zal_s hn11) (fun H locs z33 ez33 hr => ?_)
  replace h := zl_sub ez33 h
  clear ez33
  refine lv_iinc (v := (11 : Int32)) (lv' := [(1, .int (11 : Int32)), (0, .ref (B11 11 0))]) F.1 F.2.1 dX11_init_121 hl (k := 0) rfl (by decide) (by decide) rfl (fun ls hl => ?_)
  refine lv_goto (tgt := 101) F.1 F.2.1 dX11_init_124 (by decide) ?_
  refine lv_iload_n F.1 F.2.1 dX11_init_101 rfl (lv_at hl 0 rfl) ?_
  refine lv_bipush (v := (24 : Int32)) F.1 F.2.1 dX11_init_102 (by decide) ?_
  refine lv_icmp_ge (tgt := 127) F.1 F.2.1 dX11_init_104 (by decide) (fun hc => absurd hc (by decide)) (fun _ => ?_)
  refine lv_aload_n F.1 F.2.1 dX11_init_107 rfl (lv_at hl 1 rfl) ?_
  refine gf11_11 F ha11_0 hr dX11_init_108 ?_
  refine lv_iload_n F.1 F.2.1 dX11_init_111 rfl (lv_at hl 0 rfl) ?_
  obtain ⟨n12, en12⟩ : ∃ y : Nat, y = 11 := ⟨_, rfl⟩
  replace h := zl_sub en12 h
  replace h := zqc_some h
  obtain ⟨hfr12, h⟩ := h
  refine zc_new (k := 5) (T := TX5) (N := 11) (fs := [.int 0, .int 0, .int 0, .int 0, .null, .int 0, .int 0, .null, .int 0, .int 0, .int 0]) tyX5 tyX5_ok rfl inX5 zq_37 zq_140 zq_3 (zFx_k F hA) (zRC_of F hr) (by decide +kernel) (Nat.le_trans (Nat.le_of_ble_eq_true rfl) hca) (Nat.le_trans (Nat.le_of_ble_eq_true rfl) hcb) dX11_init_112 (fun q H hq => ?_)
  have hr := zRC_rep hq
  refine lv_dup F.1 F.2.1 dX11_init_115 rfl ?_
  refine lv_iload_n F.1 F.2.1 dX11_init_116 rfl (lv_at hl 0 rfl) ?_
  refine zK_callN (cs := []) (As := [.int (11 : Int32)]) (rest := [.ref q, .int (11 : Int32), .ref (B11 139 0)]) hAO zn_141 rfl zq_142 zq_143 zq_3 hdX5_init (okX5_init l D cy q (11 : Int32)) (zFx_k F hA) hq hl.1 rfl (Nat.le_of_ble_eq_true rfl) dX11_init_117 ⟨Nat.le_of_ble_eq_true rfl, Nat.le_of_ble_eq_true rfl⟩ ⟨Nat.le_trans (Nat.le_of_ble_eq_true rfl) hca, Nat.le_trans (Nat.le_of_ble_eq_true rfl) hcb⟩ (fun H locs cs1 hp hq => ?_)
  obtain ⟨w1, w2, rfl⟩ := hp
  obtain ⟨B12, hB12, eo12, hst, hD12, h9, hr⟩ := zmkX5 hst h9 n12 (11 : Int32) hfr12 hq
  clear hq
  generalize eI12 : I11 ++ znmX5 n12 = I12 at hst hD12 h9 hr
  have F0 := F
  have F := zFx_nx F hst hD12
  have hi12 : ∀ k o, (k, o) ∈ I11 → (k, o) ∈ I12 := fun k o h => eI12 ▸ List.mem_append_left _ h
  have hn12 : (5, n12) ∈ I12 := eI12 ▸ List.mem_append_right _ (List.mem_of_getElem? (l := znmX5 n12) (i := 0) rfl)
  have hcB := (hB12 11 0 hnX0).trans hcB
  have hnX0 := hi12 _ _ hnX0
  obtain ⟨z34, ez34⟩ : ∃ y, y = zmg (znmX5 n12) (zmwX5 n12 (11 : Int32)) z33 := ⟨_, rfl⟩
  rw [← ez34] at hr
  replace h := zl_sub ez34 h
  clear ez34
  replace h := zl_sub eI12.symm h
  have ha12_0 : (11, 0) ∈ I12 := hi12 _ _ ha11_0
  have ha12_1 : (139, 0) ∈ I12 := hi12 _ _ (zal_a F0 ha11_0 (j := 0) rfl)
  replace hl : lv_has ls 3 [(1, .int (11 : Int32)), (0, .ref (B12 11 0))] := by
            rw [hB12 11 0 ha11_0]; exact hl
  rw [← hB12 139 0 (zal_a F0 ha11_0 (j := 0) rfl)]
  subst eo12
  refine zr_aast (k := 139) (v := (some n12)) (T := TX5) (N := 11) (by decide) rfl (by decide) rfl rfl F ha12_1 hr dX11_init_120 (by rw [zlen_d (by decide)]; exact (by unfold vp_in; decide)) (zal_s hn12) (fun H locs z36 ez36 hr => ?_)
  replace h := zl_sub ez36 h
  clear ez36
  refine lv_iinc (v := (12 : Int32)) (lv' := [(1, .int (12 : Int32)), (0, .ref (B12 11 0))]) F.1 F.2.1 dX11_init_121 hl (k := 0) rfl (by decide) (by decide) rfl (fun ls hl => ?_)
  refine lv_goto (tgt := 101) F.1 F.2.1 dX11_init_124 (by decide) ?_
  refine lv_iload_n F.1 F.2.1 dX11_init_101 rfl (lv_at hl 0 rfl) ?_
  refine lv_bipush (v := (24 : Int32)) F.1 F.2.1 dX11_init_102 (by decide) ?_
  refine lv_icmp_ge (tgt := 127) F.1 F.2.1 dX11_init_104 (by decide) (fun hc => absurd hc (by decide)) (fun _ => ?_)
  refine lv_aload_n F.1 F.2.1 dX11_init_107 rfl (lv_at hl 1 rfl) ?_
  refine gf11_11 F ha12_0 hr dX11_init_108 ?_
  refine lv_iload_n F.1 F.2.1 dX11_init_111 rfl (lv_at hl 0 rfl) ?_
  obtain ⟨n13, en13⟩ : ∃ y : Nat, y = 12 := ⟨_, rfl⟩
  replace h := zl_sub en13 h
  replace h := zqc_some h
  obtain ⟨hfr13, h⟩ := h
  refine zc_new (k := 5) (T := TX5) (N := 11) (fs := [.int 0, .int 0, .int 0, .int 0, .null, .int 0, .int 0, .null, .int 0, .int 0, .int 0]) tyX5 tyX5_ok rfl inX5 zq_37 zq_140 zq_3 (zFx_k F hA) (zRC_of F hr) (by decide +kernel) (Nat.le_trans (Nat.le_of_ble_eq_true rfl) hca) (Nat.le_trans (Nat.le_of_ble_eq_true rfl) hcb) dX11_init_112 (fun q H hq => ?_)
  have hr := zRC_rep hq
  refine lv_dup F.1 F.2.1 dX11_init_115 rfl ?_
  refine lv_iload_n F.1 F.2.1 dX11_init_116 rfl (lv_at hl 0 rfl) ?_
  refine zK_callN (cs := []) (As := [.int (12 : Int32)]) (rest := [.ref q, .int (12 : Int32), .ref (B12 139 0)]) hAO zn_141 rfl zq_142 zq_143 zq_3 hdX5_init (okX5_init l D cy q (12 : Int32)) (zFx_k F hA) hq hl.1 rfl (Nat.le_of_ble_eq_true rfl) dX11_init_117 ⟨Nat.le_of_ble_eq_true rfl, Nat.le_of_ble_eq_true rfl⟩ ⟨Nat.le_trans (Nat.le_of_ble_eq_true rfl) hca, Nat.le_trans (Nat.le_of_ble_eq_true rfl) hcb⟩ (fun H locs cs1 hp hq => ?_)
  obtain ⟨w1, w2, rfl⟩ := hp
  obtain ⟨B13, hB13, eo13, hst, hD13, h9, hr⟩ := zmkX5 hst h9 n13 (12 : Int32) hfr13 hq
  clear hq
  generalize eI13 : I12 ++ znmX5 n13 = I13 at hst hD13 h9 hr
  have F0 := F
  have F := zFx_nx F hst hD13
  have hi13 : ∀ k o, (k, o) ∈ I12 → (k, o) ∈ I13 := fun k o h => eI13 ▸ List.mem_append_left _ h
  have hn13 : (5, n13) ∈ I13 := eI13 ▸ List.mem_append_right _ (List.mem_of_getElem? (l := znmX5 n13) (i := 0) rfl)
  have hcB := (hB13 11 0 hnX0).trans hcB
  have hnX0 := hi13 _ _ hnX0
  obtain ⟨z37, ez37⟩ : ∃ y, y = zmg (znmX5 n13) (zmwX5 n13 (12 : Int32)) z36 := ⟨_, rfl⟩
  rw [← ez37] at hr
  replace h := zl_sub ez37 h
  clear ez37
  replace h := zl_sub eI13.symm h
  have ha13_0 : (11, 0) ∈ I13 := hi13 _ _ ha12_0
  have ha13_1 : (139, 0) ∈ I13 := hi13 _ _ (zal_a F0 ha12_0 (j := 0) rfl)
  replace hl : lv_has ls 3 [(1, .int (12 : Int32)), (0, .ref (B13 11 0))] := by
            rw [hB13 11 0 ha12_0]; exact hl
  rw [← hB13 139 0 (zal_a F0 ha12_0 (j := 0) rfl)]
  subst eo13
  refine zr_aast (k := 139) (v := (some n13)) (T := TX5) (N := 11) (by decide) rfl (by decide) rfl rfl F ha13_1 hr dX11_init_120 (by rw [zlen_d (by decide)]; exact (by unfold vp_in; decide)) (zal_s hn13) (fun H locs z39 ez39 hr => ?_)
  replace h := zl_sub ez39 h
  clear ez39
  refine lv_iinc (v := (13 : Int32)) (lv' := [(1, .int (13 : Int32)), (0, .ref (B13 11 0))]) F.1 F.2.1 dX11_init_121 hl (k := 0) rfl (by decide) (by decide) rfl (fun ls hl => ?_)
  refine lv_goto (tgt := 101) F.1 F.2.1 dX11_init_124 (by decide) ?_
  refine lv_iload_n F.1 F.2.1 dX11_init_101 rfl (lv_at hl 0 rfl) ?_
  refine lv_bipush (v := (24 : Int32)) F.1 F.2.1 dX11_init_102 (by decide) ?_
  refine lv_icmp_ge (tgt := 127) F.1 F.2.1 dX11_init_104 (by decide) (fun hc => absurd hc (by decide)) (fun _ => ?_)
  refine lv_aload_n F.1 F.2.1 dX11_init_107 rfl (lv_at hl 1 rfl) ?_
  refine gf11_11 F ha13_0 hr dX11_init_108 ?_
  refine lv_iload_n F.1 F.2.1 dX11_init_111 rfl (lv_at hl 0 rfl) ?_
  obtain ⟨n14, en14⟩ : ∃ y : Nat, y = 13 := ⟨_, rfl⟩
  replace h := zl_sub en14 h
  replace h := zqc_some h
  obtain ⟨hfr14, h⟩ := h
  refine zc_new (k := 5) (T := TX5) (N := 11) (fs := [.int 0, .int 0, .int 0, .int 0, .null, .int 0, .int 0, .null, .int 0, .int 0, .int 0]) tyX5 tyX5_ok rfl inX5 zq_37 zq_140 zq_3 (zFx_k F hA) (zRC_of F hr) (by decide +kernel) (Nat.le_trans (Nat.le_of_ble_eq_true rfl) hca) (Nat.le_trans (Nat.le_of_ble_eq_true rfl) hcb) dX11_init_112 (fun q H hq => ?_)
  have hr := zRC_rep hq
  refine lv_dup F.1 F.2.1 dX11_init_115 rfl ?_
  refine lv_iload_n F.1 F.2.1 dX11_init_116 rfl (lv_at hl 0 rfl) ?_
  refine zK_callN (cs := []) (As := [.int (13 : Int32)]) (rest := [.ref q, .int (13 : Int32), .ref (B13 139 0)]) hAO zn_141 rfl zq_142 zq_143 zq_3 hdX5_init (okX5_init l D cy q (13 : Int32)) (zFx_k F hA) hq hl.1 rfl (Nat.le_of_ble_eq_true rfl) dX11_init_117 ⟨Nat.le_of_ble_eq_true rfl, Nat.le_of_ble_eq_true rfl⟩ ⟨Nat.le_trans (Nat.le_of_ble_eq_true rfl) hca, Nat.le_trans (Nat.le_of_ble_eq_true rfl) hcb⟩ (fun H locs cs1 hp hq => ?_)
  obtain ⟨w1, w2, rfl⟩ := hp
  obtain ⟨B14, hB14, eo14, hst, hD14, h9, hr⟩ := zmkX5 hst h9 n14 (13 : Int32) hfr14 hq
  clear hq
  generalize eI14 : I13 ++ znmX5 n14 = I14 at hst hD14 h9 hr
  have F0 := F
  have F := zFx_nx F hst hD14
  have hi14 : ∀ k o, (k, o) ∈ I13 → (k, o) ∈ I14 := fun k o h => eI14 ▸ List.mem_append_left _ h
  have hn14 : (5, n14) ∈ I14 := eI14 ▸ List.mem_append_right _ (List.mem_of_getElem? (l := znmX5 n14) (i := 0) rfl)
  have hcB := (hB14 11 0 hnX0).trans hcB
  have hnX0 := hi14 _ _ hnX0
  obtain ⟨z40, ez40⟩ : ∃ y, y = zmg (znmX5 n14) (zmwX5 n14 (13 : Int32)) z39 := ⟨_, rfl⟩
  rw [← ez40] at hr
  replace h := zl_sub ez40 h
  clear ez40
  replace h := zl_sub eI14.symm h
  have ha14_0 : (11, 0) ∈ I14 := hi14 _ _ ha13_0
  have ha14_1 : (139, 0) ∈ I14 := hi14 _ _ (zal_a F0 ha13_0 (j := 0) rfl)
  replace hl : lv_has ls 3 [(1, .int (13 : Int32)), (0, .ref (B14 11 0))] := by
            rw [hB14 11 0 ha13_0]; exact hl
  rw [← hB14 139 0 (zal_a F0 ha13_0 (j := 0) rfl)]
  subst eo14
  refine zr_aast (k := 139) (v := (some n14)) (T := TX5) (N := 11) (by decide) rfl (by decide) rfl rfl F ha14_1 hr dX11_init_120 (by rw [zlen_d (by decide)]; exact (by unfold vp_in; decide)) (zal_s hn14) (fun H locs z42 ez42 hr => ?_)
  replace h := zl_sub ez42 h
  clear ez42
  refine lv_iinc (v := (14 : Int32)) (lv' := [(1, .int (14 : Int32)), (0, .ref (B14 11 0))]) F.1 F.2.1 dX11_init_121 hl (k := 0) rfl (by decide) (by decide) rfl (fun ls hl => ?_)
  refine lv_goto (tgt := 101) F.1 F.2.1 dX11_init_124 (by decide) ?_
  refine lv_iload_n F.1 F.2.1 dX11_init_101 rfl (lv_at hl 0 rfl) ?_
  refine lv_bipush (v := (24 : Int32)) F.1 F.2.1 dX11_init_102 (by decide) ?_
  refine lv_icmp_ge (tgt := 127) F.1 F.2.1 dX11_init_104 (by decide) (fun hc => absurd hc (by decide)) (fun _ => ?_)
  refine lv_aload_n F.1 F.2.1 dX11_init_107 rfl (lv_at hl 1 rfl) ?_
  refine gf11_11 F ha14_0 hr dX11_init_108 ?_
  refine lv_iload_n F.1 F.2.1 dX11_init_111 rfl (lv_at hl 0 rfl) ?_
  obtain ⟨n15, en15⟩ : ∃ y : Nat, y = 14 := ⟨_, rfl⟩
  replace h := zl_sub en15 h
  replace h := zqc_some h
  obtain ⟨hfr15, h⟩ := h
  refine zc_new (k := 5) (T := TX5) (N := 11) (fs := [.int 0, .int 0, .int 0, .int 0, .null, .int 0, .int 0, .null, .int 0, .int 0, .int 0]) tyX5 tyX5_ok rfl inX5 zq_37 zq_140 zq_3 (zFx_k F hA) (zRC_of F hr) (by decide +kernel) (Nat.le_trans (Nat.le_of_ble_eq_true rfl) hca) (Nat.le_trans (Nat.le_of_ble_eq_true rfl) hcb) dX11_init_112 (fun q H hq => ?_)
  have hr := zRC_rep hq
  refine lv_dup F.1 F.2.1 dX11_init_115 rfl ?_
  refine lv_iload_n F.1 F.2.1 dX11_init_116 rfl (lv_at hl 0 rfl) ?_
  refine zK_callN (cs := []) (As := [.int (14 : Int32)]) (rest := [.ref q, .int (14 : Int32), .ref (B14 139 0)]) hAO zn_141 rfl zq_142 zq_143 zq_3 hdX5_init (okX5_init l D cy q (14 : Int32)) (zFx_k F hA) hq hl.1 rfl (Nat.le_of_ble_eq_true rfl) dX11_init_117 ⟨Nat.le_of_ble_eq_true rfl, Nat.le_of_ble_eq_true rfl⟩ ⟨Nat.le_trans (Nat.le_of_ble_eq_true rfl) hca, Nat.le_trans (Nat.le_of_ble_eq_true rfl) hcb⟩ (fun H locs cs1 hp hq => ?_)
  obtain ⟨w1, w2, rfl⟩ := hp
  obtain ⟨B15, hB15, eo15, hst, hD15, h9, hr⟩ := zmkX5 hst h9 n15 (14 : Int32) hfr15 hq
  clear hq
  generalize eI15 : I14 ++ znmX5 n15 = I15 at hst hD15 h9 hr
  have F0 := F
  have F := zFx_nx F hst hD15
  have hi15 : ∀ k o, (k, o) ∈ I14 → (k, o) ∈ I15 := fun k o h => eI15 ▸ List.mem_append_left _ h
  have hn15 : (5, n15) ∈ I15 := eI15 ▸ List.mem_append_right _ (List.mem_of_getElem? (l := znmX5 n15) (i := 0) rfl)
  have hcB := (hB15 11 0 hnX0).trans hcB
  have hnX0 := hi15 _ _ hnX0
  obtain ⟨z43, ez43⟩ : ∃ y, y = zmg (znmX5 n15) (zmwX5 n15 (14 : Int32)) z42 := ⟨_, rfl⟩
  rw [← ez43] at hr
  replace h := zl_sub ez43 h
  clear ez43
  replace h := zl_sub eI15.symm h
  have ha15_0 : (11, 0) ∈ I15 := hi15 _ _ ha14_0
  have ha15_1 : (139, 0) ∈ I15 := hi15 _ _ (zal_a F0 ha14_0 (j := 0) rfl)
  replace hl : lv_has ls 3 [(1, .int (14 : Int32)), (0, .ref (B15 11 0))] := by
            rw [hB15 11 0 ha14_0]; exact hl
  rw [← hB15 139 0 (zal_a F0 ha14_0 (j := 0) rfl)]
  subst eo15
  refine zr_aast (k := 139) (v := (some n15)) (T := TX5) (N := 11) (by decide) rfl (by decide) rfl rfl F ha15_1 hr dX11_init_120 (by rw [zlen_d (by decide)]; exact (by unfold vp_in; decide)) (zal_s hn15) (fun H locs z45 ez45 hr => ?_)
  replace h := zl_sub ez45 h
  clear ez45
  refine lv_iinc (v := (15 : Int32)) (lv' := [(1, .int (15 : Int32)), (0, .ref (B15 11 0))]) F.1 F.2.1 dX11_init_121 hl (k := 0) rfl (by decide) (by decide) rfl (fun ls hl => ?_)
  refine lv_goto (tgt := 101) F.1 F.2.1 dX11_init_124 (by decide) ?_
  refine lv_iload_n F.1 F.2.1 dX11_init_101 rfl (lv_at hl 0 rfl) ?_
  refine lv_bipush (v := (24 : Int32)) F.1 F.2.1 dX11_init_102 (by decide) ?_
  refine lv_icmp_ge (tgt := 127) F.1 F.2.1 dX11_init_104 (by decide) (fun hc => absurd hc (by decide)) (fun _ => ?_)
  refine lv_aload_n F.1 F.2.1 dX11_init_107 rfl (lv_at hl 1 rfl) ?_
  refine gf11_11 F ha15_0 hr dX11_init_108 ?_
  refine lv_iload_n F.1 F.2.1 dX11_init_111 rfl (lv_at hl 0 rfl) ?_
  obtain ⟨n16, en16⟩ : ∃ y : Nat, y = 15 := ⟨_, rfl⟩
  replace h := zl_sub en16 h
  replace h := zqc_some h
  obtain ⟨hfr16, h⟩ := h
  refine zc_new (k := 5) (T := TX5) (N := 11) (fs := [.int 0, .int 0, .int 0, .int 0, .null, .int 0, .int 0, .null, .int 0, .int 0, .int 0]) tyX5 tyX5_ok rfl inX5 zq_37 zq_140 zq_3 (zFx_k F hA) (zRC_of F hr) (by decide +kernel) (Nat.le_trans (Nat.le_of_ble_eq_true rfl) hca) (Nat.le_trans (Nat.le_of_ble_eq_true rfl) hcb) dX11_init_112 (fun q H hq => ?_)
  have hr := zRC_rep hq
  refine lv_dup F.1 F.2.1 dX11_init_115 rfl ?_
  refine lv_iload_n F.1 F.2.1 dX11_init_116 rfl (lv_at hl 0 rfl) ?_
  refine zK_callN (cs := []) (As := [.int (15 : Int32)]) (rest := [.ref q, .int (15 : Int32), .ref (B15 139 0)]) hAO zn_141 rfl zq_142 zq_143 zq_3 hdX5_init (okX5_init l D cy q (15 : Int32)) (zFx_k F hA) hq hl.1 rfl (Nat.le_of_ble_eq_true rfl) dX11_init_117 ⟨Nat.le_of_ble_eq_true rfl, Nat.le_of_ble_eq_true rfl⟩ ⟨Nat.le_trans (Nat.le_of_ble_eq_true rfl) hca, Nat.le_trans (Nat.le_of_ble_eq_true rfl) hcb⟩ (fun H locs cs1 hp hq => ?_)
  obtain ⟨w1, w2, rfl⟩ := hp
  obtain ⟨B16, hB16, eo16, hst, hD16, h9, hr⟩ := zmkX5 hst h9 n16 (15 : Int32) hfr16 hq
  clear hq
  generalize eI16 : I15 ++ znmX5 n16 = I16 at hst hD16 h9 hr
  have F0 := F
  have F := zFx_nx F hst hD16
  have hi16 : ∀ k o, (k, o) ∈ I15 → (k, o) ∈ I16 := fun k o h => eI16 ▸ List.mem_append_left _ h
  have hn16 : (5, n16) ∈ I16 := eI16 ▸ List.mem_append_right _ (List.mem_of_getElem? (l := znmX5 n16) (i := 0) rfl)
  have hcB := (hB16 11 0 hnX0).trans hcB
  have hnX0 := hi16 _ _ hnX0
  obtain ⟨z46, ez46⟩ : ∃ y, y = zmg (znmX5 n16) (zmwX5 n16 (15 : Int32)) z45 := ⟨_, rfl⟩
  rw [← ez46] at hr
  replace h := zl_sub ez46 h
  clear ez46
  replace h := zl_sub eI16.symm h
  have ha16_0 : (11, 0) ∈ I16 := hi16 _ _ ha15_0
  have ha16_1 : (139, 0) ∈ I16 := hi16 _ _ (zal_a F0 ha15_0 (j := 0) rfl)
  replace hl : lv_has ls 3 [(1, .int (15 : Int32)), (0, .ref (B16 11 0))] := by
            rw [hB16 11 0 ha15_0]; exact hl
  rw [← hB16 139 0 (zal_a F0 ha15_0 (j := 0) rfl)]
  subst eo16
  refine zr_aast (k := 139) (v := (some n16)) (T := TX5) (N := 11) (by decide) rfl (by decide) rfl rfl F ha16_1 hr dX11_init_120 (by rw [zlen_d (by decide)]; exact (by unfold vp_in; decide)) (zal_s hn16) (fun H locs z48 ez48 hr => ?_)
  replace h := zl_sub ez48 h
  clear ez48
  refine lv_iinc (v := (16 : Int32)) (lv' := [(1, .int (16 : Int32)), (0, .ref (B16 11 0))]) F.1 F.2.1 dX11_init_121 hl (k := 0) rfl (by decide) (by decide) rfl (fun ls hl => ?_)
  refine lv_goto (tgt := 101) F.1 F.2.1 dX11_init_124 (by decide) ?_
  refine lv_iload_n F.1 F.2.1 dX11_init_101 rfl (lv_at hl 0 rfl) ?_
  refine lv_bipush (v := (24 : Int32)) F.1 F.2.1 dX11_init_102 (by decide) ?_
  refine lv_icmp_ge (tgt := 127) F.1 F.2.1 dX11_init_104 (by decide) (fun hc => absurd hc (by decide)) (fun _ => ?_)
  refine lv_aload_n F.1 F.2.1 dX11_init_107 rfl (lv_at hl 1 rfl) ?_
  refine gf11_11 F ha16_0 hr dX11_init_108 ?_
  refine lv_iload_n F.1 F.2.1 dX11_init_111 rfl (lv_at hl 0 rfl) ?_
  obtain ⟨n17, en17⟩ : ∃ y : Nat, y = 16 := ⟨_, rfl⟩
  replace h := zl_sub en17 h
  replace h := zqc_some h
  obtain ⟨hfr17, h⟩ := h
  refine zc_new (k := 5) (T := TX5) (N := 11) (fs := [.int 0, .int 0, .int 0, .int 0, .null, .int 0, .int 0, .null, .int 0, .int 0, .int 0]) tyX5 tyX5_ok rfl inX5 zq_37 zq_140 zq_3 (zFx_k F hA) (zRC_of F hr) (by decide +kernel) (Nat.le_trans (Nat.le_of_ble_eq_true rfl) hca) (Nat.le_trans (Nat.le_of_ble_eq_true rfl) hcb) dX11_init_112 (fun q H hq => ?_)
  have hr := zRC_rep hq
  refine lv_dup F.1 F.2.1 dX11_init_115 rfl ?_
  refine lv_iload_n F.1 F.2.1 dX11_init_116 rfl (lv_at hl 0 rfl) ?_
  refine zK_callN (cs := []) (As := [.int (16 : Int32)]) (rest := [.ref q, .int (16 : Int32), .ref (B16 139 0)]) hAO zn_141 rfl zq_142 zq_143 zq_3 hdX5_init (okX5_init l D cy q (16 : Int32)) (zFx_k F hA) hq hl.1 rfl (Nat.le_of_ble_eq_true rfl) dX11_init_117 ⟨Nat.le_of_ble_eq_true rfl, Nat.le_of_ble_eq_true rfl⟩ ⟨Nat.le_trans (Nat.le_of_ble_eq_true rfl) hca, Nat.le_trans (Nat.le_of_ble_eq_true rfl) hcb⟩ (fun H locs cs1 hp hq => ?_)
  obtain ⟨w1, w2, rfl⟩ := hp
  obtain ⟨B17, hB17, eo17, hst, hD17, h9, hr⟩ := zmkX5 hst h9 n17 (16 : Int32) hfr17 hq
  clear hq
  generalize eI17 : I16 ++ znmX5 n17 = I17 at hst hD17 h9 hr
  have F0 := F
  have F := zFx_nx F hst hD17
  have hi17 : ∀ k o, (k, o) ∈ I16 → (k, o) ∈ I17 := fun k o h => eI17 ▸ List.mem_append_left _ h
  have hn17 : (5, n17) ∈ I17 := eI17 ▸ List.mem_append_right _ (List.mem_of_getElem? (l := znmX5 n17) (i := 0) rfl)
  have hcB := (hB17 11 0 hnX0).trans hcB
  have hnX0 := hi17 _ _ hnX0
  obtain ⟨z49, ez49⟩ : ∃ y, y = zmg (znmX5 n17) (zmwX5 n17 (16 : Int32)) z48 := ⟨_, rfl⟩
  rw [← ez49] at hr
  replace h := zl_sub ez49 h
  clear ez49
  replace h := zl_sub eI17.symm h
  have ha17_0 : (11, 0) ∈ I17 := hi17 _ _ ha16_0
  have ha17_1 : (139, 0) ∈ I17 := hi17 _ _ (zal_a F0 ha16_0 (j := 0) rfl)
  replace hl : lv_has ls 3 [(1, .int (16 : Int32)), (0, .ref (B17 11 0))] := by
            rw [hB17 11 0 ha16_0]; exact hl
  rw [← hB17 139 0 (zal_a F0 ha16_0 (j := 0) rfl)]
  subst eo17
  refine zr_aast (k := 139) (v := (some n17)) (T := TX5) (N := 11) (by decide) rfl (by decide) rfl rfl F ha17_1 hr dX11_init_120 (by rw [zlen_d (by decide)]; exact (by unfold vp_in; decide)) (zal_s hn17) (fun H locs z51 ez51 hr => ?_)
  replace h := zl_sub ez51 h
  clear ez51
  refine lv_iinc (v := (17 : Int32)) (lv' := [(1, .int (17 : Int32)), (0, .ref (B17 11 0))]) F.1 F.2.1 dX11_init_121 hl (k := 0) rfl (by decide) (by decide) rfl (fun ls hl => ?_)
  refine lv_goto (tgt := 101) F.1 F.2.1 dX11_init_124 (by decide) ?_
  refine lv_iload_n F.1 F.2.1 dX11_init_101 rfl (lv_at hl 0 rfl) ?_
  refine lv_bipush (v := (24 : Int32)) F.1 F.2.1 dX11_init_102 (by decide) ?_
  refine lv_icmp_ge (tgt := 127) F.1 F.2.1 dX11_init_104 (by decide) (fun hc => absurd hc (by decide)) (fun _ => ?_)
  refine lv_aload_n F.1 F.2.1 dX11_init_107 rfl (lv_at hl 1 rfl) ?_
  refine gf11_11 F ha17_0 hr dX11_init_108 ?_
  refine lv_iload_n F.1 F.2.1 dX11_init_111 rfl (lv_at hl 0 rfl) ?_
  obtain ⟨n18, en18⟩ : ∃ y : Nat, y = 17 := ⟨_, rfl⟩
  replace h := zl_sub en18 h
  replace h := zqc_some h
  obtain ⟨hfr18, h⟩ := h
  refine zc_new (k := 5) (T := TX5) (N := 11) (fs := [.int 0, .int 0, .int 0, .int 0, .null, .int 0, .int 0, .null, .int 0, .int 0, .int 0]) tyX5 tyX5_ok rfl inX5 zq_37 zq_140 zq_3 (zFx_k F hA) (zRC_of F hr) (by decide +kernel) (Nat.le_trans (Nat.le_of_ble_eq_true rfl) hca) (Nat.le_trans (Nat.le_of_ble_eq_true rfl) hcb) dX11_init_112 (fun q H hq => ?_)
  have hr := zRC_rep hq
  refine lv_dup F.1 F.2.1 dX11_init_115 rfl ?_
  refine lv_iload_n F.1 F.2.1 dX11_init_116 rfl (lv_at hl 0 rfl) ?_
  refine zK_callN (cs := []) (As := [.int (17 : Int32)]) (rest := [.ref q, .int (17 : Int32), .ref (B17 139 0)]) hAO zn_141 rfl zq_142 zq_143 zq_3 hdX5_init (okX5_init l D cy q (17 : Int32)) (zFx_k F hA) hq hl.1 rfl (Nat.le_of_ble_eq_true rfl) dX11_init_117 ⟨Nat.le_of_ble_eq_true rfl, Nat.le_of_ble_eq_true rfl⟩ ⟨Nat.le_trans (Nat.le_of_ble_eq_true rfl) hca, Nat.le_trans (Nat.le_of_ble_eq_true rfl) hcb⟩ (fun H locs cs1 hp hq => ?_)
  obtain ⟨w1, w2, rfl⟩ := hp
  obtain ⟨B18, hB18, eo18, hst, hD18, h9, hr⟩ := zmkX5 hst h9 n18 (17 : Int32) hfr18 hq
  clear hq
  generalize eI18 : I17 ++ znmX5 n18 = I18 at hst hD18 h9 hr
  have F0 := F
  have F := zFx_nx F hst hD18
  have hi18 : ∀ k o, (k, o) ∈ I17 → (k, o) ∈ I18 := fun k o h => eI18 ▸ List.mem_append_left _ h
  have hn18 : (5, n18) ∈ I18 := eI18 ▸ List.mem_append_right _ (List.mem_of_getElem? (l := znmX5 n18) (i := 0) rfl)
  have hcB := (hB18 11 0 hnX0).trans hcB
  have hnX0 := hi18 _ _ hnX0
  obtain ⟨z52, ez52⟩ : ∃ y, y = zmg (znmX5 n18) (zmwX5 n18 (17 : Int32)) z51 := ⟨_, rfl⟩
  rw [← ez52] at hr
  replace h := zl_sub ez52 h
  clear ez52
  replace h := zl_sub eI18.symm h
  have ha18_0 : (11, 0) ∈ I18 := hi18 _ _ ha17_0
  have ha18_1 : (139, 0) ∈ I18 := hi18 _ _ (zal_a F0 ha17_0 (j := 0) rfl)
  replace hl : lv_has ls 3 [(1, .int (17 : Int32)), (0, .ref (B18 11 0))] := by
            rw [hB18 11 0 ha17_0]; exact hl
  rw [← hB18 139 0 (zal_a F0 ha17_0 (j := 0) rfl)]
  subst eo18
  refine zr_aast (k := 139) (v := (some n18)) (T := TX5) (N := 11) (by decide) rfl (by decide) rfl rfl F ha18_1 hr dX11_init_120 (by rw [zlen_d (by decide)]; exact (by unfold vp_in; decide)) (zal_s hn18) (fun H locs z54 ez54 hr => ?_)
  replace h := zl_sub ez54 h
  clear ez54
  refine lv_iinc (v := (18 : Int32)) (lv' := [(1, .int (18 : Int32)), (0, .ref (B18 11 0))]) F.1 F.2.1 dX11_init_121 hl (k := 0) rfl (by decide) (by decide) rfl (fun ls hl => ?_)
  refine lv_goto (tgt := 101) F.1 F.2.1 dX11_init_124 (by decide) ?_
  refine lv_iload_n F.1 F.2.1 dX11_init_101 rfl (lv_at hl 0 rfl) ?_
  refine lv_bipush (v := (24 : Int32)) F.1 F.2.1 dX11_init_102 (by decide) ?_
  refine lv_icmp_ge (tgt := 127) F.1 F.2.1 dX11_init_104 (by decide) (fun hc => absurd hc (by decide)) (fun _ => ?_)
  refine lv_aload_n F.1 F.2.1 dX11_init_107 rfl (lv_at hl 1 rfl) ?_
  refine gf11_11 F ha18_0 hr dX11_init_108 ?_
  refine lv_iload_n F.1 F.2.1 dX11_init_111 rfl (lv_at hl 0 rfl) ?_
  obtain ⟨n19, en19⟩ : ∃ y : Nat, y = 18 := ⟨_, rfl⟩
  replace h := zl_sub en19 h
  replace h := zqc_some h
  obtain ⟨hfr19, h⟩ := h
  refine zc_new (k := 5) (T := TX5) (N := 11) (fs := [.int 0, .int 0, .int 0, .int 0, .null, .int 0, .int 0, .null, .int 0, .int 0, .int 0]) tyX5 tyX5_ok rfl inX5 zq_37 zq_140 zq_3 (zFx_k F hA) (zRC_of F hr) (by decide +kernel) (Nat.le_trans (Nat.le_of_ble_eq_true rfl) hca) (Nat.le_trans (Nat.le_of_ble_eq_true rfl) hcb) dX11_init_112 (fun q H hq => ?_)
  have hr := zRC_rep hq
  refine lv_dup F.1 F.2.1 dX11_init_115 rfl ?_
  refine lv_iload_n F.1 F.2.1 dX11_init_116 rfl (lv_at hl 0 rfl) ?_
  refine zK_callN (cs := []) (As := [.int (18 : Int32)]) (rest := [.ref q, .int (18 : Int32), .ref (B18 139 0)]) hAO zn_141 rfl zq_142 zq_143 zq_3 hdX5_init (okX5_init l D cy q (18 : Int32)) (zFx_k F hA) hq hl.1 rfl (Nat.le_of_ble_eq_true rfl) dX11_init_117 ⟨Nat.le_of_ble_eq_true rfl, Nat.le_of_ble_eq_true rfl⟩ ⟨Nat.le_trans (Nat.le_of_ble_eq_true rfl) hca, Nat.le_trans (Nat.le_of_ble_eq_true rfl) hcb⟩ (fun H locs cs1 hp hq => ?_)
  obtain ⟨w1, w2, rfl⟩ := hp
  obtain ⟨B19, hB19, eo19, hst, hD19, h9, hr⟩ := zmkX5 hst h9 n19 (18 : Int32) hfr19 hq
  clear hq
  generalize eI19 : I18 ++ znmX5 n19 = I19 at hst hD19 h9 hr
  have F0 := F
  have F := zFx_nx F hst hD19
  have hi19 : ∀ k o, (k, o) ∈ I18 → (k, o) ∈ I19 := fun k o h => eI19 ▸ List.mem_append_left _ h
  have hn19 : (5, n19) ∈ I19 := eI19 ▸ List.mem_append_right _ (List.mem_of_getElem? (l := znmX5 n19) (i := 0) rfl)
  have hcB := (hB19 11 0 hnX0).trans hcB
  have hnX0 := hi19 _ _ hnX0
  obtain ⟨z55, ez55⟩ : ∃ y, y = zmg (znmX5 n19) (zmwX5 n19 (18 : Int32)) z54 := ⟨_, rfl⟩
  rw [← ez55] at hr
  replace h := zl_sub ez55 h
  clear ez55
  replace h := zl_sub eI19.symm h
  have ha19_0 : (11, 0) ∈ I19 := hi19 _ _ ha18_0
  have ha19_1 : (139, 0) ∈ I19 := hi19 _ _ (zal_a F0 ha18_0 (j := 0) rfl)
  replace hl : lv_has ls 3 [(1, .int (18 : Int32)), (0, .ref (B19 11 0))] := by
            rw [hB19 11 0 ha18_0]; exact hl
  rw [← hB19 139 0 (zal_a F0 ha18_0 (j := 0) rfl)]
  subst eo19
  refine zr_aast (k := 139) (v := (some n19)) (T := TX5) (N := 11) (by decide) rfl (by decide) rfl rfl F ha19_1 hr dX11_init_120 (by rw [zlen_d (by decide)]; exact (by unfold vp_in; decide)) (zal_s hn19) (fun H locs z57 ez57 hr => ?_)
  replace h := zl_sub ez57 h
  clear ez57
  refine lv_iinc (v := (19 : Int32)) (lv' := [(1, .int (19 : Int32)), (0, .ref (B19 11 0))]) F.1 F.2.1 dX11_init_121 hl (k := 0) rfl (by decide) (by decide) rfl (fun ls hl => ?_)
  refine lv_goto (tgt := 101) F.1 F.2.1 dX11_init_124 (by decide) ?_
  refine lv_iload_n F.1 F.2.1 dX11_init_101 rfl (lv_at hl 0 rfl) ?_
  refine lv_bipush (v := (24 : Int32)) F.1 F.2.1 dX11_init_102 (by decide) ?_
  refine lv_icmp_ge (tgt := 127) F.1 F.2.1 dX11_init_104 (by decide) (fun hc => absurd hc (by decide)) (fun _ => ?_)
  refine lv_aload_n F.1 F.2.1 dX11_init_107 rfl (lv_at hl 1 rfl) ?_
  refine gf11_11 F ha19_0 hr dX11_init_108 ?_
  refine lv_iload_n F.1 F.2.1 dX11_init_111 rfl (lv_at hl 0 rfl) ?_
  obtain ⟨n20, en20⟩ : ∃ y : Nat, y = 19 := ⟨_, rfl⟩
  replace h := zl_sub en20 h
  replace h := zqc_some h
  obtain ⟨hfr20, h⟩ := h
  refine zc_new (k := 5) (T := TX5) (N := 11) (fs := [.int 0, .int 0, .int 0, .int 0, .null, .int 0, .int 0, .null, .int 0, .int 0, .int 0]) tyX5 tyX5_ok rfl inX5 zq_37 zq_140 zq_3 (zFx_k F hA) (zRC_of F hr) (by decide +kernel) (Nat.le_trans (Nat.le_of_ble_eq_true rfl) hca) (Nat.le_trans (Nat.le_of_ble_eq_true rfl) hcb) dX11_init_112 (fun q H hq => ?_)
  have hr := zRC_rep hq
  refine lv_dup F.1 F.2.1 dX11_init_115 rfl ?_
  refine lv_iload_n F.1 F.2.1 dX11_init_116 rfl (lv_at hl 0 rfl) ?_
  refine zK_callN (cs := []) (As := [.int (19 : Int32)]) (rest := [.ref q, .int (19 : Int32), .ref (B19 139 0)]) hAO zn_141 rfl zq_142 zq_143 zq_3 hdX5_init (okX5_init l D cy q (19 : Int32)) (zFx_k F hA) hq hl.1 rfl (Nat.le_of_ble_eq_true rfl) dX11_init_117 ⟨Nat.le_of_ble_eq_true rfl, Nat.le_of_ble_eq_true rfl⟩ ⟨Nat.le_trans (Nat.le_of_ble_eq_true rfl) hca, Nat.le_trans (Nat.le_of_ble_eq_true rfl) hcb⟩ (fun H locs cs1 hp hq => ?_)
  obtain ⟨w1, w2, rfl⟩ := hp
  obtain ⟨B20, hB20, eo20, hst, hD20, h9, hr⟩ := zmkX5 hst h9 n20 (19 : Int32) hfr20 hq
  clear hq
  generalize eI20 : I19 ++ znmX5 n20 = I20 at hst hD20 h9 hr
  have F0 := F
  have F := zFx_nx F hst hD20
  have hi20 : ∀ k o, (k, o) ∈ I19 → (k, o) ∈ I20 := fun k o h => eI20 ▸ List.mem_append_left _ h
  have hn20 : (5, n20) ∈ I20 := eI20 ▸ List.mem_append_right _ (List.mem_of_getElem? (l := znmX5 n20) (i := 0) rfl)
  have hcB := (hB20 11 0 hnX0).trans hcB
  have hnX0 := hi20 _ _ hnX0
  obtain ⟨z58, ez58⟩ : ∃ y, y = zmg (znmX5 n20) (zmwX5 n20 (19 : Int32)) z57 := ⟨_, rfl⟩
  rw [← ez58] at hr
  replace h := zl_sub ez58 h
  clear ez58
  replace h := zl_sub eI20.symm h
  have ha20_0 : (11, 0) ∈ I20 := hi20 _ _ ha19_0
  have ha20_1 : (139, 0) ∈ I20 := hi20 _ _ (zal_a F0 ha19_0 (j := 0) rfl)
  replace hl : lv_has ls 3 [(1, .int (19 : Int32)), (0, .ref (B20 11 0))] := by
            rw [hB20 11 0 ha19_0]; exact hl
  rw [← hB20 139 0 (zal_a F0 ha19_0 (j := 0) rfl)]
  subst eo20
  refine zr_aast (k := 139) (v := (some n20)) (T := TX5) (N := 11) (by decide) rfl (by decide) rfl rfl F ha20_1 hr dX11_init_120 (by rw [zlen_d (by decide)]; exact (by unfold vp_in; decide)) (zal_s hn20) (fun H locs z60 ez60 hr => ?_)
  replace h := zl_sub ez60 h
  clear ez60
  refine lv_iinc (v := (20 : Int32)) (lv' := [(1, .int (20 : Int32)), (0, .ref (B20 11 0))]) F.1 F.2.1 dX11_init_121 hl (k := 0) rfl (by decide) (by decide) rfl (fun ls hl => ?_)
  refine lv_goto (tgt := 101) F.1 F.2.1 dX11_init_124 (by decide) ?_
  refine lv_iload_n F.1 F.2.1 dX11_init_101 rfl (lv_at hl 0 rfl) ?_
  refine lv_bipush (v := (24 : Int32)) F.1 F.2.1 dX11_init_102 (by decide) ?_
  refine lv_icmp_ge (tgt := 127) F.1 F.2.1 dX11_init_104 (by decide) (fun hc => absurd hc (by decide)) (fun _ => ?_)
  refine lv_aload_n F.1 F.2.1 dX11_init_107 rfl (lv_at hl 1 rfl) ?_
  refine gf11_11 F ha20_0 hr dX11_init_108 ?_
  refine lv_iload_n F.1 F.2.1 dX11_init_111 rfl (lv_at hl 0 rfl) ?_
  obtain ⟨n21, en21⟩ : ∃ y : Nat, y = 20 := ⟨_, rfl⟩
  replace h := zl_sub en21 h
  replace h := zqc_some h
  obtain ⟨hfr21, h⟩ := h
  refine zc_new (k := 5) (T := TX5) (N := 11) (fs := [.int 0, .int 0, .int 0, .int 0, .null, .int 0, .int 0, .null, .int 0, .int 0, .int 0]) tyX5 tyX5_ok rfl inX5 zq_37 zq_140 zq_3 (zFx_k F hA) (zRC_of F hr) (by decide +kernel) (Nat.le_trans (Nat.le_of_ble_eq_true rfl) hca) (Nat.le_trans (Nat.le_of_ble_eq_true rfl) hcb) dX11_init_112 (fun q H hq => ?_)
  have hr := zRC_rep hq
  refine lv_dup F.1 F.2.1 dX11_init_115 rfl ?_
  refine lv_iload_n F.1 F.2.1 dX11_init_116 rfl (lv_at hl 0 rfl) ?_
  refine zK_callN (cs := []) (As := [.int (20 : Int32)]) (rest := [.ref q, .int (20 : Int32), .ref (B20 139 0)]) hAO zn_141 rfl zq_142 zq_143 zq_3 hdX5_init (okX5_init l D cy q (20 : Int32)) (zFx_k F hA) hq hl.1 rfl (Nat.le_of_ble_eq_true rfl) dX11_init_117 ⟨Nat.le_of_ble_eq_true rfl, Nat.le_of_ble_eq_true rfl⟩ ⟨Nat.le_trans (Nat.le_of_ble_eq_true rfl) hca, Nat.le_trans (Nat.le_of_ble_eq_true rfl) hcb⟩ (fun H locs cs1 hp hq => ?_)
  obtain ⟨w1, w2, rfl⟩ := hp
  obtain ⟨B21, hB21, eo21, hst, hD21, h9, hr⟩ := zmkX5 hst h9 n21 (20 : Int32) hfr21 hq
  clear hq
  generalize eI21 : I20 ++ znmX5 n21 = I21 at hst hD21 h9 hr
  have F0 := F
  have F := zFx_nx F hst hD21
  have hi21 : ∀ k o, (k, o) ∈ I20 → (k, o) ∈ I21 := fun k o h => eI21 ▸ List.mem_append_left _ h
  have hn21 : (5, n21) ∈ I21 := eI21 ▸ List.mem_append_right _ (List.mem_of_getElem? (l := znmX5 n21) (i := 0) rfl)
  have hcB := (hB21 11 0 hnX0).trans hcB
  have hnX0 := hi21 _ _ hnX0
  obtain ⟨z61, ez61⟩ : ∃ y, y = zmg (znmX5 n21) (zmwX5 n21 (20 : Int32)) z60 := ⟨_, rfl⟩
  rw [← ez61] at hr
  replace h := zl_sub ez61 h
  clear ez61
  replace h := zl_sub eI21.symm h
  have ha21_0 : (11, 0) ∈ I21 := hi21 _ _ ha20_0
  have ha21_1 : (139, 0) ∈ I21 := hi21 _ _ (zal_a F0 ha20_0 (j := 0) rfl)
  replace hl : lv_has ls 3 [(1, .int (20 : Int32)), (0, .ref (B21 11 0))] := by
            rw [hB21 11 0 ha20_0]; exact hl
  rw [← hB21 139 0 (zal_a F0 ha20_0 (j := 0) rfl)]
  subst eo21
  refine zr_aast (k := 139) (v := (some n21)) (T := TX5) (N := 11) (by decide) rfl (by decide) rfl rfl F ha21_1 hr dX11_init_120 (by rw [zlen_d (by decide)]; exact (by unfold vp_in; decide)) (zal_s hn21) (fun H locs z63 ez63 hr => ?_)
  replace h := zl_sub ez63 h
  clear ez63
  refine lv_iinc (v := (21 : Int32)) (lv' := [(1, .int (21 : Int32)), (0, .ref (B21 11 0))]) F.1 F.2.1 dX11_init_121 hl (k := 0) rfl (by decide) (by decide) rfl (fun ls hl => ?_)
  refine lv_goto (tgt := 101) F.1 F.2.1 dX11_init_124 (by decide) ?_
  refine lv_iload_n F.1 F.2.1 dX11_init_101 rfl (lv_at hl 0 rfl) ?_
  refine lv_bipush (v := (24 : Int32)) F.1 F.2.1 dX11_init_102 (by decide) ?_
  refine lv_icmp_ge (tgt := 127) F.1 F.2.1 dX11_init_104 (by decide) (fun hc => absurd hc (by decide)) (fun _ => ?_)
  refine lv_aload_n F.1 F.2.1 dX11_init_107 rfl (lv_at hl 1 rfl) ?_
  refine gf11_11 F ha21_0 hr dX11_init_108 ?_
  refine lv_iload_n F.1 F.2.1 dX11_init_111 rfl (lv_at hl 0 rfl) ?_
  obtain ⟨n22, en22⟩ : ∃ y : Nat, y = 21 := ⟨_, rfl⟩
  replace h := zl_sub en22 h
  replace h := zqc_some h
  obtain ⟨hfr22, h⟩ := h
  refine zc_new (k := 5) (T := TX5) (N := 11) (fs := [.int 0, .int 0, .int 0, .int 0, .null, .int 0, .int 0, .null, .int 0, .int 0, .int 0]) tyX5 tyX5_ok rfl inX5 zq_37 zq_140 zq_3 (zFx_k F hA) (zRC_of F hr) (by decide +kernel) (Nat.le_trans (Nat.le_of_ble_eq_true rfl) hca) (Nat.le_trans (Nat.le_of_ble_eq_true rfl) hcb) dX11_init_112 (fun q H hq => ?_)
  have hr := zRC_rep hq
  refine lv_dup F.1 F.2.1 dX11_init_115 rfl ?_
  refine lv_iload_n F.1 F.2.1 dX11_init_116 rfl (lv_at hl 0 rfl) ?_
  refine zK_callN (cs := []) (As := [.int (21 : Int32)]) (rest := [.ref q, .int (21 : Int32), .ref (B21 139 0)]) hAO zn_141 rfl zq_142 zq_143 zq_3 hdX5_init (okX5_init l D cy q (21 : Int32)) (zFx_k F hA) hq hl.1 rfl (Nat.le_of_ble_eq_true rfl) dX11_init_117 ⟨Nat.le_of_ble_eq_true rfl, Nat.le_of_ble_eq_true rfl⟩ ⟨Nat.le_trans (Nat.le_of_ble_eq_true rfl) hca, Nat.le_trans (Nat.le_of_ble_eq_true rfl) hcb⟩ (fun H locs cs1 hp hq => ?_)
  obtain ⟨w1, w2, rfl⟩ := hp
  obtain ⟨B22, hB22, eo22, hst, hD22, h9, hr⟩ := zmkX5 hst h9 n22 (21 : Int32) hfr22 hq
  clear hq
  generalize eI22 : I21 ++ znmX5 n22 = I22 at hst hD22 h9 hr
  have F0 := F
  have F := zFx_nx F hst hD22
  have hi22 : ∀ k o, (k, o) ∈ I21 → (k, o) ∈ I22 := fun k o h => eI22 ▸ List.mem_append_left _ h
  have hn22 : (5, n22) ∈ I22 := eI22 ▸ List.mem_append_right _ (List.mem_of_getElem? (l := znmX5 n22) (i := 0) rfl)
  have hcB := (hB22 11 0 hnX0).trans hcB
  have hnX0 := hi22 _ _ hnX0
  obtain ⟨z64, ez64⟩ : ∃ y, y = zmg (znmX5 n22) (zmwX5 n22 (21 : Int32)) z63 := ⟨_, rfl⟩
  rw [← ez64] at hr
  replace h := zl_sub ez64 h
  clear ez64
  replace h := zl_sub eI22.symm h
  have ha22_0 : (11, 0) ∈ I22 := hi22 _ _ ha21_0
  have ha22_1 : (139, 0) ∈ I22 := hi22 _ _ (zal_a F0 ha21_0 (j := 0) rfl)
  replace hl : lv_has ls 3 [(1, .int (21 : Int32)), (0, .ref (B22 11 0))] := by
            rw [hB22 11 0 ha21_0]; exact hl
  rw [← hB22 139 0 (zal_a F0 ha21_0 (j := 0) rfl)]
  subst eo22
  refine zr_aast (k := 139) (v := (some n22)) (T := TX5) (N := 11) (by decide) rfl (by decide) rfl rfl F ha22_1 hr dX11_init_120 (by rw [zlen_d (by decide)]; exact (by unfold vp_in; decide)) (zal_s hn22) (fun H locs z66 ez66 hr => ?_)
  replace h := zl_sub ez66 h
  clear ez66
  refine lv_iinc (v := (22 : Int32)) (lv' := [(1, .int (22 : Int32)), (0, .ref (B22 11 0))]) F.1 F.2.1 dX11_init_121 hl (k := 0) rfl (by decide) (by decide) rfl (fun ls hl => ?_)
  refine lv_goto (tgt := 101) F.1 F.2.1 dX11_init_124 (by decide) ?_
  refine lv_iload_n F.1 F.2.1 dX11_init_101 rfl (lv_at hl 0 rfl) ?_
  refine lv_bipush (v := (24 : Int32)) F.1 F.2.1 dX11_init_102 (by decide) ?_
  refine lv_icmp_ge (tgt := 127) F.1 F.2.1 dX11_init_104 (by decide) (fun hc => absurd hc (by decide)) (fun _ => ?_)
  refine lv_aload_n F.1 F.2.1 dX11_init_107 rfl (lv_at hl 1 rfl) ?_
  refine gf11_11 F ha22_0 hr dX11_init_108 ?_
  refine lv_iload_n F.1 F.2.1 dX11_init_111 rfl (lv_at hl 0 rfl) ?_
  obtain ⟨n23, en23⟩ : ∃ y : Nat, y = 22 := ⟨_, rfl⟩
  replace h := zl_sub en23 h
  replace h := zqc_some h
  obtain ⟨hfr23, h⟩ := h
  refine zc_new (k := 5) (T := TX5) (N := 11) (fs := [.int 0, .int 0, .int 0, .int 0, .null, .int 0, .int 0, .null, .int 0, .int 0, .int 0]) tyX5 tyX5_ok rfl inX5 zq_37 zq_140 zq_3 (zFx_k F hA) (zRC_of F hr) (by decide +kernel) (Nat.le_trans (Nat.le_of_ble_eq_true rfl) hca) (Nat.le_trans (Nat.le_of_ble_eq_true rfl) hcb) dX11_init_112 (fun q H hq => ?_)
  have hr := zRC_rep hq
  refine lv_dup F.1 F.2.1 dX11_init_115 rfl ?_
  refine lv_iload_n F.1 F.2.1 dX11_init_116 rfl (lv_at hl 0 rfl) ?_
  refine zK_callN (cs := []) (As := [.int (22 : Int32)]) (rest := [.ref q, .int (22 : Int32), .ref (B22 139 0)]) hAO zn_141 rfl zq_142 zq_143 zq_3 hdX5_init (okX5_init l D cy q (22 : Int32)) (zFx_k F hA) hq hl.1 rfl (Nat.le_of_ble_eq_true rfl) dX11_init_117 ⟨Nat.le_of_ble_eq_true rfl, Nat.le_of_ble_eq_true rfl⟩ ⟨Nat.le_trans (Nat.le_of_ble_eq_true rfl) hca, Nat.le_trans (Nat.le_of_ble_eq_true rfl) hcb⟩ (fun H locs cs1 hp hq => ?_)
  obtain ⟨w1, w2, rfl⟩ := hp
  obtain ⟨B23, hB23, eo23, hst, hD23, h9, hr⟩ := zmkX5 hst h9 n23 (22 : Int32) hfr23 hq
  clear hq
  generalize eI23 : I22 ++ znmX5 n23 = I23 at hst hD23 h9 hr
  have F0 := F
  have F := zFx_nx F hst hD23
  have hi23 : ∀ k o, (k, o) ∈ I22 → (k, o) ∈ I23 := fun k o h => eI23 ▸ List.mem_append_left _ h
  have hn23 : (5, n23) ∈ I23 := eI23 ▸ List.mem_append_right _ (List.mem_of_getElem? (l := znmX5 n23) (i := 0) rfl)
  have hcB := (hB23 11 0 hnX0).trans hcB
  have hnX0 := hi23 _ _ hnX0
  obtain ⟨z67, ez67⟩ : ∃ y, y = zmg (znmX5 n23) (zmwX5 n23 (22 : Int32)) z66 := ⟨_, rfl⟩
  rw [← ez67] at hr
  replace h := zl_sub ez67 h
  clear ez67
  replace h := zl_sub eI23.symm h
  have ha23_0 : (11, 0) ∈ I23 := hi23 _ _ ha22_0
  have ha23_1 : (139, 0) ∈ I23 := hi23 _ _ (zal_a F0 ha22_0 (j := 0) rfl)
  replace hl : lv_has ls 3 [(1, .int (22 : Int32)), (0, .ref (B23 11 0))] := by
            rw [hB23 11 0 ha22_0]; exact hl
  rw [← hB23 139 0 (zal_a F0 ha22_0 (j := 0) rfl)]
  subst eo23
  refine zr_aast (k := 139) (v := (some n23)) (T := TX5) (N := 11) (by decide) rfl (by decide) rfl rfl F ha23_1 hr dX11_init_120 (by rw [zlen_d (by decide)]; exact (by unfold vp_in; decide)) (zal_s hn23) (fun H locs z69 ez69 hr => ?_)
  replace h := zl_sub ez69 h
  clear ez69
  refine lv_iinc (v := (23 : Int32)) (lv' := [(1, .int (23 : Int32)), (0, .ref (B23 11 0))]) F.1 F.2.1 dX11_init_121 hl (k := 0) rfl (by decide) (by decide) rfl (fun ls hl => ?_)
  refine lv_goto (tgt := 101) F.1 F.2.1 dX11_init_124 (by decide) ?_
  refine lv_iload_n F.1 F.2.1 dX11_init_101 rfl (lv_at hl 0 rfl) ?_
  refine lv_bipush (v := (24 : Int32)) F.1 F.2.1 dX11_init_102 (by decide) ?_
  refine lv_icmp_ge (tgt := 127) F.1 F.2.1 dX11_init_104 (by decide) (fun hc => absurd hc (by decide)) (fun _ => ?_)
  refine lv_aload_n F.1 F.2.1 dX11_init_107 rfl (lv_at hl 1 rfl) ?_
  refine gf11_11 F ha23_0 hr dX11_init_108 ?_
  refine lv_iload_n F.1 F.2.1 dX11_init_111 rfl (lv_at hl 0 rfl) ?_
  obtain ⟨n24, en24⟩ : ∃ y : Nat, y = 23 := ⟨_, rfl⟩
  replace h := zl_sub en24 h
  replace h := zqc_some h
  obtain ⟨hfr24, h⟩ := h
  refine zc_new (k := 5) (T := TX5) (N := 11) (fs := [.int 0, .int 0, .int 0, .int 0, .null, .int 0, .int 0, .null, .int 0, .int 0, .int 0]) tyX5 tyX5_ok rfl inX5 zq_37 zq_140 zq_3 (zFx_k F hA) (zRC_of F hr) (by decide +kernel) (Nat.le_trans (Nat.le_of_ble_eq_true rfl) hca) (Nat.le_trans (Nat.le_of_ble_eq_true rfl) hcb) dX11_init_112 (fun q H hq => ?_)
  have hr := zRC_rep hq
  refine lv_dup F.1 F.2.1 dX11_init_115 rfl ?_
  refine lv_iload_n F.1 F.2.1 dX11_init_116 rfl (lv_at hl 0 rfl) ?_
  refine zK_callN (cs := []) (As := [.int (23 : Int32)]) (rest := [.ref q, .int (23 : Int32), .ref (B23 139 0)]) hAO zn_141 rfl zq_142 zq_143 zq_3 hdX5_init (okX5_init l D cy q (23 : Int32)) (zFx_k F hA) hq hl.1 rfl (Nat.le_of_ble_eq_true rfl) dX11_init_117 ⟨Nat.le_of_ble_eq_true rfl, Nat.le_of_ble_eq_true rfl⟩ ⟨Nat.le_trans (Nat.le_of_ble_eq_true rfl) hca, Nat.le_trans (Nat.le_of_ble_eq_true rfl) hcb⟩ (fun H locs cs1 hp hq => ?_)
  obtain ⟨w1, w2, rfl⟩ := hp
  obtain ⟨B24, hB24, eo24, hst, hD24, h9, hr⟩ := zmkX5 hst h9 n24 (23 : Int32) hfr24 hq
  clear hq
  generalize eI24 : I23 ++ znmX5 n24 = I24 at hst hD24 h9 hr
  have F0 := F
  have F := zFx_nx F hst hD24
  have hi24 : ∀ k o, (k, o) ∈ I23 → (k, o) ∈ I24 := fun k o h => eI24 ▸ List.mem_append_left _ h
  have hn24 : (5, n24) ∈ I24 := eI24 ▸ List.mem_append_right _ (List.mem_of_getElem? (l := znmX5 n24) (i := 0) rfl)
  have hcB := (hB24 11 0 hnX0).trans hcB
  have hnX0 := hi24 _ _ hnX0
  obtain ⟨z70, ez70⟩ : ∃ y, y = zmg (znmX5 n24) (zmwX5 n24 (23 : Int32)) z69 := ⟨_, rfl⟩
  rw [← ez70] at hr
  replace h := zl_sub ez70 h
  clear ez70
  replace h := zl_sub eI24.symm h
  have ha24_0 : (11, 0) ∈ I24 := hi24 _ _ ha23_0
  have ha24_1 : (139, 0) ∈ I24 := hi24 _ _ (zal_a F0 ha23_0 (j := 0) rfl)
  replace hl : lv_has ls 3 [(1, .int (23 : Int32)), (0, .ref (B24 11 0))] := by
            rw [hB24 11 0 ha23_0]; exact hl
  rw [← hB24 139 0 (zal_a F0 ha23_0 (j := 0) rfl)]
  subst eo24
  refine zr_aast (k := 139) (v := (some n24)) (T := TX5) (N := 11) (by decide) rfl (by decide) rfl rfl F ha24_1 hr dX11_init_120 (by rw [zlen_d (by decide)]; exact (by unfold vp_in; decide)) (zal_s hn24) (fun H locs z72 ez72 hr => ?_)
  replace h := zl_sub ez72 h
  clear ez72
  refine lv_iinc (v := (24 : Int32)) (lv' := [(1, .int (24 : Int32)), (0, .ref (B24 11 0))]) F.1 F.2.1 dX11_init_121 hl (k := 0) rfl (by decide) (by decide) rfl (fun ls hl => ?_)
  refine lv_goto (tgt := 101) F.1 F.2.1 dX11_init_124 (by decide) ?_
  refine lv_iload_n F.1 F.2.1 dX11_init_101 rfl (lv_at hl 0 rfl) ?_
  refine lv_bipush (v := (24 : Int32)) F.1 F.2.1 dX11_init_102 (by decide) ?_
  refine lv_icmp_ge (tgt := 127) F.1 F.2.1 dX11_init_104 (by decide) (fun _ => ?_) (fun hc => absurd (by decide) hc)
  refine lv_iconst (v := (0 : Int32)) F.1 F.2.1 dX11_init_127 (by decide) ?_
  refine lv_istore_n (lv' := [(1, .int (0 : Int32)), (0, .ref (B24 11 0))]) F.1 F.2.1 dX11_init_128 rfl hl (by decide) rfl (fun ls hl => ?_)
  refine W.widen (k := 84 + 2 * 0) (n := 7096 + 1500 * 0) (Nat.le_of_ble_eq_true rfl) (Nat.le_of_ble_eq_true rfl) (lX11 hA hAO hret hlocks 513 0 hst h9 F ha24_0 rfl hr (lv_sub hl [1, 0] rfl) hcB h)
