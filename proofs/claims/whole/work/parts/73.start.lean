/-! what the law finds at its start -/
theorem zT {args : Array Value} {s : State} (hts : ∀ w ∈ lw_tbl, w.before args s = true) (i : Nat) {w : Cond} (h : tables_1[i]? = some w) : w.before args s = true := hts w (List.mem_append_right _ (List.mem_of_getElem? h))
theorem zty_p {ty : FieldType} {args : Array Value} {s : State} (h : (Cond.arrayClass ty).before args s = true) (hp : ty = .byte ∨ ty = .int ∨ ty = .long ∨ ty = .boolean) : ∃ cA : ClassId, ArrOfT s cA ty ∧ va_RA s cA ty := by
  obtain ⟨c, k, comp, h1, h2, h3⟩ := Cond.arrayClass_spec h
  refine ⟨c, fun N z => ⟨(fun k h => by cases h), k, h2, comp, h3⟩, ?_⟩
  rcases hp with rfl | rfl | rfl | rfl <;> exact h1
theorem zty_o {C : String} {args : Array Value} {s : State} (h : (Cond.arrayOver (.object C)).before args s = true) : ∃ cA : ClassId, ArrOfT s cA (.object C) ∧ va_RA s cA (.object C) := by
  obtain ⟨comp, c, k, h1, h2, h3, h4, h5⟩ := Cond.arrayOver_spec h
  exact ⟨c, fun N z => ⟨(fun k h => by cases h), k, h3, comp, h4⟩, k, comp, h3, h4, h1, h5⟩
theorem zty_a {t : FieldType} {args : Array Value} {s : State} (h : (Cond.arrayOver (.array t)).before args s = true) : ∃ cA : ClassId, ArrOfT s cA (.array t) ∧ va_RA s cA (.array t) := by
  simp only [Cond.before, Cond.holds, Cond.value, beq_iff_eq] at h
  cases hc : s.vm.findClass (FieldType.array t).toString with
  | none => simp [hc] at h
  | some comp =>
    simp only [hc, Option.bind_some, Option.bind_eq_some_iff, Option.map_eq_some_iff] at h
    obtain ⟨c, hi, k, hk, hb⟩ := h
    obtain ⟨hlt, hp, -⟩ := Array.findIdx?_eq_some_iff_getElem.mp hi
    have hkk : s.vm.classes[c] = k := (Array.getElem?_eq_some_iff.mp hk).2
    rw [hkk] at hp
    cases hkind : k.kind with
    | array component ty =>
      rw [hkind] at hb hp
      simp at hb hp
      exact ⟨c, fun N z => ⟨(fun k h => by cases h), k, hk, comp, by rw [hkind, hp, hb.1]⟩, hb.2⟩
    | _ => rw [hkind] at hb; simp at hb
theorem zstr {own tx : String} {k : Nat} {args : Array Value} {s : State} (h : (Cond.stringRef own k tx).before args s = true) : ∃ sa, vk_R own k tx sa s := by
  cases hc : s.vm.findClass own with
  | none => simp [Cond.before, Cond.holds, Cond.value, hc] at h
  | some cur =>
    obtain ⟨k', cf, i, a, -, -, -, -, -, he⟩ := Cond.stringRef_spec hc h
    exact ⟨a, vk_R.of h he⟩
set_option maxHeartbeats 4000000 in
set_option maxRecDepth 100000 in
theorem zst_C {args : Array Value} {s : State} (hts : ∀ w ∈ lw_tbl, w.before args s = true) (hG : ∀ w ∈ zGW, w.before args s = true) : ∃ D : va_G, ∀ (c : Nat) (q : vw_C), vwCl[c]? = some q → u_Kn s q.1 q.2.1 q.2.2 (D.1 c) (D.2 c) := by
  obtain ⟨c0, i0, h0⟩ := u_known (C := RX0) (T := TX0) (N := 16) (n := 16) hG inX0 (zT hts 419 (w := .instantiable RX0 16) (by decide +kernel))
  obtain ⟨c1, i1, h1⟩ := u_known (C := RX1) (T := TX1) (N := 13) (n := 13) hG inX1 (zT hts 296 (w := .instantiable RX1 13) (by decide +kernel))
  obtain ⟨c2, i2, h2⟩ := u_known (C := RX2) (T := TX2) (N := 13) (n := 13) hG inX2 (zT hts 537 (w := .instantiable RX2 13) (by decide +kernel))
  obtain ⟨c3, i3, h3⟩ := u_known (C := RX3) (T := TX3) (N := 19) (n := 19) hG inX3 (zT hts 543 (w := .instantiable RX3 19) (by decide +kernel))
  obtain ⟨c4, i4, h4⟩ := u_known (C := RX4) (T := TX4) (N := 8) (n := 8) hG inX4 (zT hts 612 (w := .instantiable RX4 8) (by decide +kernel))
  obtain ⟨c5, i5, h5⟩ := u_known (C := RX5) (T := TX5) (N := 11) (n := 11) hG inX5 (zT hts 140 (w := .instantiable RX5 11) (by decide +kernel))
  obtain ⟨c6, i6, h6⟩ := u_known (C := RX6) (T := TX6) (N := 14) (n := 14) hG inX6 (zT hts 549 (w := .instantiable RX6 14) (by decide +kernel))
  obtain ⟨c7, i7, h7⟩ := u_known (C := RX7) (T := TX7) (N := 20) (n := 20) hG inX7 (zT hts 43 (w := .instantiable RX7 20) (by decide +kernel))
  obtain ⟨c8, i8, h8⟩ := u_known (C := RX8) (T := TX8) (N := 13) (n := 13) hG inX8 (zT hts 912 (w := .instantiable RX8 13) (by decide +kernel))
  obtain ⟨c9, i9, h9⟩ := u_known (C := RX9) (T := TX9) (N := 13) (n := 13) hG inX9 (zT hts 411 (w := .instantiable RX9 13) (by decide +kernel))
  obtain ⟨c10, i10, h10⟩ := u_known (C := RX10) (T := TX10) (N := 9) (n := 9) hG inX10 (zT hts 647 (w := .instantiable RX10 9) (by decide +kernel))
  obtain ⟨c11, i11, h11⟩ := u_known (C := RX11) (T := TX11) (N := 21) (n := 21) hG inX11 (zT hts 30 (w := .instantiable RX11 21) (by decide +kernel))
  obtain ⟨c12, i12, h12⟩ := u_known (C := RX12) (T := TX12) (N := 30) (n := 30) hG inX12 (zT hts 1990 (w := .instantiable RX12 30) (by decide +kernel))
  obtain ⟨c13, i13, h13⟩ := u_known (C := RX13) (T := TX13) (N := 10) (n := 10) hG inX13 (zT hts 2168 (w := .instantiable RX13 10) (by decide +kernel))
  obtain ⟨c14, i14, h14⟩ := u_known (C := RX14) (T := TX14) (N := 47) (n := 47) hG inX14 (zT hts 2207 (w := .instantiable RX14 47) (by decide +kernel))
  obtain ⟨c15, i15, h15⟩ := u_known (C := RX15) (T := TX15) (N := 6) (n := 6) hG inX15 (zT hts 2141 (w := .instantiable RX15 6) (by decide +kernel))
  obtain ⟨c16, i16, h16⟩ := u_known (C := RX16) (T := TX16) (N := 10) (n := 10) hG inX16 (zT hts 2406 (w := .instantiable RX16 10) (by decide +kernel))
  obtain ⟨c17, i17, h17⟩ := u_known (C := RX17) (T := TX17) (N := 7) (n := 7) hG inX17 (zT hts 2111 (w := .instantiable RX17 7) (by decide +kernel))
  obtain ⟨c18, i18, h18⟩ := u_known (C := RX18) (T := TX18) (N := 13) (n := 13) hG inX18 (zT hts 2463 (w := .instantiable RX18 13) (by decide +kernel))
  obtain ⟨c19, i19, h19⟩ := u_known (C := RX19) (T := TX19) (N := 32) (n := 32) hG inX19 (zT hts 1872 (w := .instantiable RX19 32) (by decide +kernel))
  refine ⟨(fun k => if k = 0 then c0 else if k = 1 then c1 else if k = 2 then c2 else if k = 3 then c3 else if k = 4 then c4 else if k = 5 then c5 else if k = 6 then c6 else if k = 7 then c7 else if k = 8 then c8 else if k = 9 then c9 else if k = 10 then c10 else if k = 11 then c11 else if k = 12 then c12 else if k = 13 then c13 else if k = 14 then c14 else if k = 15 then c15 else if k = 16 then c16 else if k = 17 then c17 else if k = 18 then c18 else c19, fun k => if k = 0 then i0 else if k = 1 then i1 else if k = 2 then i2 else if k = 3 then i3 else if k = 4 then i4 else if k = 5 then i5 else if k = 6 then i6 else if k = 7 then i7 else if k = 8 then i8 else if k = 9 then i9 else if k = 10 then i10 else if k = 11 then i11 else if k = 12 then i12 else if k = 13 then i13 else if k = 14 then i14 else if k = 15 then i15 else if k = 16 then i16 else if k = 17 then i17 else if k = 18 then i18 else i19), ?_⟩
  intro k q hq
  match k, hq with
  | 0, hq =>
    obtain rfl : (RX0, TX0, 16) = q := Option.some.inj hq
    exact h0
  | 1, hq =>
    obtain rfl : (RX1, TX1, 13) = q := Option.some.inj hq
    exact h1
  | 2, hq =>
    obtain rfl : (RX2, TX2, 13) = q := Option.some.inj hq
    exact h2
  | 3, hq =>
    obtain rfl : (RX3, TX3, 19) = q := Option.some.inj hq
    exact h3
  | 4, hq =>
    obtain rfl : (RX4, TX4, 8) = q := Option.some.inj hq
    exact h4
  | 5, hq =>
    obtain rfl : (RX5, TX5, 11) = q := Option.some.inj hq
    exact h5
  | 6, hq =>
    obtain rfl : (RX6, TX6, 14) = q := Option.some.inj hq
    exact h6
  | 7, hq =>
    obtain rfl : (RX7, TX7, 20) = q := Option.some.inj hq
    exact h7
  | 8, hq =>
    obtain rfl : (RX8, TX8, 13) = q := Option.some.inj hq
    exact h8
  | 9, hq =>
    obtain rfl : (RX9, TX9, 13) = q := Option.some.inj hq
    exact h9
  | 10, hq =>
    obtain rfl : (RX10, TX10, 9) = q := Option.some.inj hq
    exact h10
  | 11, hq =>
    obtain rfl : (RX11, TX11, 21) = q := Option.some.inj hq
    exact h11
  | 12, hq =>
    obtain rfl : (RX12, TX12, 30) = q := Option.some.inj hq
    exact h12
  | 13, hq =>
    obtain rfl : (RX13, TX13, 10) = q := Option.some.inj hq
    exact h13
  | 14, hq =>
    obtain rfl : (RX14, TX14, 47) = q := Option.some.inj hq
    exact h14
  | 15, hq =>
    obtain rfl : (RX15, TX15, 6) = q := Option.some.inj hq
    exact h15
  | 16, hq =>
    obtain rfl : (RX16, TX16, 10) = q := Option.some.inj hq
    exact h16
  | 17, hq =>
    obtain rfl : (RX17, TX17, 7) = q := Option.some.inj hq
    exact h17
  | 18, hq =>
    obtain rfl : (RX18, TX18, 13) = q := Option.some.inj hq
    exact h18
  | 19, hq =>
    obtain rfl : (RX19, TX19, 32) = q := Option.some.inj hq
    exact h19
  | k + 20, hq => exact absurd hq (by rw [List.getElem?_eq_none (Nat.le_trans (Nat.le_of_ble_eq_true rfl) (Nat.le_add_left 20 k))]; exact fun h => by cases h)
set_option maxHeartbeats 4000000 in
set_option maxRecDepth 100000 in
theorem zst_K {args : Array Value} {s : State} (hts : ∀ w ∈ lw_tbl, w.before args s = true) (hG : ∀ w ∈ zGW, w.before args s = true) : ∃ (D : va_G) (cy : Nat → ClassId), va_K D vwCl (zty cy) s := by
  obtain ⟨D, hD⟩ := zst_C hts hG
  obtain ⟨c0, h0⟩ := zty_p (ty := .byte) (zT hts 139 (w := .arrayClass .byte) (by decide +kernel)) (by decide)
  obtain ⟨c1, h1⟩ := zty_p (ty := .int) (zT hts 192 (w := .arrayClass .int) (by decide +kernel)) (by decide)
  obtain ⟨c2, h2⟩ := zty_p (ty := .long) (zT hts 193 (w := .arrayClass .long) (by decide +kernel)) (by decide)
  obtain ⟨c3, h3⟩ := zty_p (ty := .boolean) (zT hts 482 (w := .arrayClass .boolean) (by decide +kernel)) (by decide)
  obtain ⟨c4, h4⟩ := zty_a (t := .int) (zT hts 417 (w := .arrayOver (.array .int)) (by decide +kernel))
  obtain ⟨c5, h5⟩ := zty_o (C := "WholeInternet$Port") (zT hts 146 (w := .arrayOver (.object "WholeInternet$Port")) (by decide +kernel))
  obtain ⟨c6, h6⟩ := zty_o (C := "WholeInternet$Parcel") (zT hts 42 (w := .arrayOver (.object "WholeInternet$Parcel")) (by decide +kernel))
  obtain ⟨c7, h7⟩ := zty_a (t := .long) (zT hts 408 (w := .arrayOver (.array .long)) (by decide +kernel))
  obtain ⟨c8, h8⟩ := zty_o (C := "WholeInternet$Door") (zT hts 536 (w := .arrayOver (.object "WholeInternet$Door")) (by decide +kernel))
  obtain ⟨c9, h9⟩ := zty_o (C := "WholeInternet$Net") (zT hts 38 (w := .arrayOver (.object "WholeInternet$Net")) (by decide +kernel))
  obtain ⟨c10, h10⟩ := zty_o (C := "WholeInternet$Box") (zT hts 40 (w := .arrayOver (.object "WholeInternet$Box")) (by decide +kernel))
  obtain ⟨c11, h11⟩ := zty_o (C := "WholeInternetModel$Port") (zT hts 1996 (w := .arrayOver (.object "WholeInternetModel$Port")) (by decide +kernel))
  obtain ⟨c12, h12⟩ := zty_o (C := "WholeInternetModel$Pieces") (zT hts 1998 (w := .arrayOver (.object "WholeInternetModel$Pieces")) (by decide +kernel))
  obtain ⟨c13, h13⟩ := zty_o (C := "WholeInternetModel$Neighbour") (zT hts 2000 (w := .arrayOver (.object "WholeInternetModel$Neighbour")) (by decide +kernel))
  obtain ⟨c14, h14⟩ := zty_o (C := "WholeInternetModel$Door") (zT hts 2003 (w := .arrayOver (.object "WholeInternetModel$Door")) (by decide +kernel))
  obtain ⟨c15, h15⟩ := zty_o (C := "WholeInternetModel$Box") (zT hts 1882 (w := .arrayOver (.object "WholeInternetModel$Box")) (by decide +kernel))
  obtain ⟨c16, h16⟩ := zty_o (C := "WholeInternetModel$Net") (zT hts 1884 (w := .arrayOver (.object "WholeInternetModel$Net")) (by decide +kernel))
  refine ⟨D, fun k => if k = 0 then c0 else if k = 1 then c1 else if k = 2 then c2 else if k = 3 then c3 else if k = 4 then c4 else if k = 5 then c5 else if k = 6 then c6 else if k = 7 then c7 else if k = 8 then c8 else if k = 9 then c9 else if k = 10 then c10 else if k = 11 then c11 else if k = 12 then c12 else if k = 13 then c13 else if k = 14 then c14 else if k = 15 then c15 else c16, hD, ?_⟩
  intro k q hq
  match k, hq with
  | 0, hq =>
    obtain rfl := Option.some.inj hq
    exact h0
  | 1, hq =>
    obtain rfl := Option.some.inj hq
    exact h1
  | 2, hq =>
    obtain rfl := Option.some.inj hq
    exact h2
  | 3, hq =>
    obtain rfl := Option.some.inj hq
    exact h3
  | 4, hq =>
    obtain rfl := Option.some.inj hq
    exact h4
  | 5, hq =>
    obtain rfl := Option.some.inj hq
    exact h5
  | 6, hq =>
    obtain rfl := Option.some.inj hq
    exact h6
  | 7, hq =>
    obtain rfl := Option.some.inj hq
    exact h7
  | 8, hq =>
    obtain rfl := Option.some.inj hq
    exact h8
  | 9, hq =>
    obtain rfl := Option.some.inj hq
    exact h9
  | 10, hq =>
    obtain rfl := Option.some.inj hq
    exact h10
  | 11, hq =>
    obtain rfl := Option.some.inj hq
    exact h11
  | 12, hq =>
    obtain rfl := Option.some.inj hq
    exact h12
  | 13, hq =>
    obtain rfl := Option.some.inj hq
    exact h13
  | 14, hq =>
    obtain rfl := Option.some.inj hq
    exact h14
  | 15, hq =>
    obtain rfl := Option.some.inj hq
    exact h15
  | 16, hq =>
    obtain rfl := Option.some.inj hq
    exact h16
  | k + 17, hq => exact absurd hq (by rw [List.getElem?_eq_none (Nat.le_trans (Nat.le_of_ble_eq_true rfl) (Nat.le_add_left 17 k))]; exact fun h => by cases h)
theorem zXR_e1 : ∀ w ∈ zXR 1, w ∈ tables_1 := by decide +kernel
theorem zXR_e2 : ∀ w ∈ zXR 2, w ∈ tables_1 := by decide +kernel
theorem zStrs_w : zStrs.map (fun q => Cond.stringRef RX11 q.1 q.2) = [375, 879, 886, 887, 907, 908, 909, 910, 989, 990, 991, 999, 1019, 1020, 1032, 1034, 1688, 1690, 1691, 1693, 1694, 1706, 1707, 1708, 1709, 1725, 1726, 1734, 1740, 1760, 1772, 1773, 1788, 1797, 1809, 1817, 1825, 1833, 1848, 1849].filterMap (fun i => tables_1[i]?) := by decide +kernel
set_option maxRecDepth 100000 in
theorem zst_X {args : Array Value} {s : State} (hts : ∀ w ∈ lw_tbl, w.before args s = true) (hn : ∀ w ∈ flatC (Jvm.Cond.and given_1 narrow_1), w.before args s = true) {A : Nat → Prop} (hA : ∀ a : Nat, a < s.heap.size → ¬ A a) : zXK A s s.heap := by
  refine ⟨fun q hq => ?_, ?_, ?_, fun w hw => ?_, fun w hw => ?_⟩
  · have h1 : Cond.stringRef RX11 q.1 q.2 ∈ zStrs.map (fun q => Cond.stringRef RX11 q.1 q.2) := List.mem_map.mpr ⟨q, hq, rfl⟩
    rw [zStrs_w] at h1
    obtain ⟨i, -, hi⟩ := List.mem_filterMap.mp h1
    exact zstr (zT hts i hi)
  · exact vx_Zqof (zT hts 362 (w := .laysStatic Bundle.tN "UNASSIGNED_STACK" Bundle.steD) (by decide +kernel)) (zT hts 5 (w := .initialized Bundle.tN) (by decide +kernel)) (hn _ (by decide +kernel)) hA
  · exact vx_Zqof (zT hts 364 (w := .laysStatic Bundle.tN "SUPPRESSED_SENTINEL" Bundle.listD) (by decide +kernel)) (zT hts 5 (w := .initialized Bundle.tN) (by decide +kernel)) (hn _ (by decide +kernel)) hA
  · exact va_Nw.of (zC_on (zXR_is1 w hw)) (hts w (List.mem_append_right _ (zXR_e1 w hw)))
  · exact va_Nw.of (zC_on (zXR_is2 w hw)) (hts w (List.mem_append_right _ (zXR_e2 w hw)))
theorem zst_L {args : Array Value} {s : State} (hts : ∀ w ∈ lw_tbl, w.before args s = true) (hn : ∀ w ∈ flatC (Jvm.Cond.and given_1 narrow_1), w.before args s = true) : zLK s := by
  refine ⟨fun w hw => ?_, va_Nc.of (hn (.not (.castable "java/lang/IllegalStateException" "java/lang/IllegalArgumentException")) (by decide +kernel))⟩
  simp only [zLW, List.mem_cons, List.not_mem_nil, or_false] at hw
  rcases hw with rfl | rfl
  · exact va_Nw.of rfl (zT hts 872 (by decide +kernel))
  · exact va_Nw.of rfl (zT hts 337 (by decide +kernel))
theorem zst_A {args : Array Value} {s : State} (hts : ∀ w ∈ lw_tbl, w.before args s = true) : zAO s := by
  refine ⟨fun C hC => ?_, zT (args := args) hts 417 (w := .arrayOver (.array .int)) (by decide +kernel), zT (args := args) hts 408 (w := .arrayOver (.array .long)) (by decide +kernel)⟩
  simp only [zAOL, List.mem_cons, List.not_mem_nil, or_false] at hC
  rcases hC with rfl | rfl | rfl | rfl | rfl | rfl | rfl | rfl | rfl | rfl | rfl
  · exact va_AO.of (zT hts 146 (by decide +kernel))
  · exact va_AO.of (zT hts 42 (by decide +kernel))
  · exact va_AO.of (zT hts 536 (by decide +kernel))
  · exact va_AO.of (zT hts 38 (by decide +kernel))
  · exact va_AO.of (zT hts 40 (by decide +kernel))
  · exact va_AO.of (zT hts 1996 (by decide +kernel))
  · exact va_AO.of (zT hts 1998 (by decide +kernel))
  · exact va_AO.of (zT hts 2000 (by decide +kernel))
  · exact va_AO.of (zT hts 2003 (by decide +kernel))
  · exact va_AO.of (zT hts 1882 (by decide +kernel))
  · exact va_AO.of (zT hts 1884 (by decide +kernel))
theorem zst_N {args : Array Value} {s : State} (hts : ∀ w ∈ lw_tbl, w.before args s = true) : zNW s := fun w hw => va_Nw.of (by have h := zNL_is hw; cases w <;> first | rfl | cases h) (hts w (List.mem_filter.mp hw).1)
theorem zv_29 : Cond.classLink RL 8 RX11 ∈ zGW := zmem 29 (by decide +kernel) (by decide +kernel)
theorem zv_30 : Cond.instantiable RX11 21 ∈ zGW := zmem 30 (by decide +kernel) (by decide +kernel)
theorem zv_1 : Cond.initialized RX11 ∈ zGW := zmem 1 (by decide +kernel) (by decide +kernel)
theorem zv_31 : Cond.methodLink RL 96 yX11_init ∈ zGW := zmem 31 (by decide +kernel) (by decide +kernel)
theorem zv_32 : Cond.instanceMethod yX11_init ∈ zGW := zmem 32 (by decide +kernel) (by decide +kernel)
theorem zv_33 : Cond.code yX11_init cX11_init 3 none ∈ zGW := zmem 33 (by decide +kernel) (by decide +kernel)
theorem zv_1871 : Cond.classLink RL 97 RX19 ∈ zGW := zmem 1871 (by decide +kernel) (by decide +kernel)
theorem zv_1872 : Cond.instantiable RX19 32 ∈ zGW := zmem 1872 (by decide +kernel) (by decide +kernel)
theorem zv_4 : Cond.initialized RX19 ∈ zGW := zmem 4 (by decide +kernel) (by decide +kernel)
theorem zv_1873 : Cond.methodLink RL 99 yX19_init ∈ zGW := zmem 1873 (by decide +kernel) (by decide +kernel)
theorem zv_1874 : Cond.instanceMethod yX19_init ∈ zGW := zmem 1874 (by decide +kernel) (by decide +kernel)
theorem zv_1875 : Cond.code yX19_init cX19_init 2 none ∈ zGW := zmem 1875 (by decide +kernel) (by decide +kernel)
theorem zv_193 : Cond.arrayClass .long ∈ zGW := zmem 193 (by decide +kernel) (by decide +kernel)
theorem hdLX11_init : yX11_init.cls ≠ "java/lang/invoke/MethodHandle" ∧ yX11_init.cls ≠ "java/lang/invoke/VarHandle" ∧ (parseMethodDescriptor yX11_init.desc).map (fun d => d.parameters.length) = some 0 := by decide +kernel
theorem hdLX19_init : yX19_init.cls ≠ "java/lang/invoke/MethodHandle" ∧ yX19_init.cls ≠ "java/lang/invoke/VarHandle" ∧ (parseMethodDescriptor yX19_init.desc).map (fun d => d.parameters.length) = some 0 := by decide +kernel
def znm193 (o : Nat) : List (Nat × Nat) := [(193, o)]
theorem zClN193 (o : Nat) : zClN (znm193 o) := by
  intro k o' h
  obtain ⟨rfl, rfl⟩ : k = 193 ∧ o' = o := by simpa [znm193] using h
  exact ⟨fun a ha => (by rw [zarrs_nil (by decide)] at ha; cases ha), fun h5 => absurd h5 (by decide)⟩
theorem zmk193 {D : va_G} {cy : Nat → ClassId} {B : Nat → Nat → Nat} {ids : List (Nat × Nat)} {A : Nat → Prop} {H0 : Heap} {z : St} {H : Heap} {locs : List Loc} (hst : zSt B ids) (h9 : zI9 ids) (o : Nat) (hfr : zfr (znm193 o) ids) {h0 : Nat} (hr : zRC D cy B ids A H0 z [(h0, .inl (cy 2, (1, .inr (.inl (fun _ => 0)))))] H locs) : ∃ B1 : Nat → Nat → Nat, (∀ k o, (k, o) ∈ ids → B1 k o = B k o) ∧ B1 193 o = h0 ∧ zSt B1 (ids ++ znm193 o) ∧ (∀ z2, va_D A (zw cy B1 (ids ++ znm193 o) z2)) ∧ zI9 (ids ++ znm193 o) ∧ zRep D cy B1 (ids ++ znm193 o) A H0 (zmg (znm193 o) zz0 z) H locs := by
  obtain ⟨B1, hB, hm⟩ := zBx B ids (znm193 o) [h0] rfl hfr.1 hfr.2
  simp only [znm193, List.map_cons, List.map_nil, List.cons.injEq] at hm
  obtain ⟨e0, -⟩ := hm
  obtain ⟨s1, s2, s3⟩ := zabs (w := zz0) hst h9 hr hB hfr.1 hfr.2 (zClN193 o) (zWf_z _) (by
    refine zal2_cons (zceL (k := 193) (o := o) (tg := 0) (by decide) (by decide) rfl e0 (List.mem_of_getElem? (l := znm193 o) (i := 0) rfl) (fun i => rfl)) ?_
    exact zal2_nil)
  exact ⟨B1, hB, e0, s1, s2, zI9_app h9 (fun o h => by simp [znm193] at h), s3⟩
/-- the state behind the law's first lines -/
noncomputable def fLaw_0st : Option (St × List (Nat × Nat) × Nat × Nat) := zd fX11_init fun S => zqc (zfr (znmX19 0) S.2) <| zl (zmg (znmX19 0) (zmwX19 0) S.1) fun z1 => zl (S.2 ++ znmX19 0) fun I1 => zqc (zfr (znm193 0) I1) <| some (zmg (znm193 0) zz0 z1, I1 ++ znm193 0, 1134, 2818858)
section ZST
variable {p : Program} {l : Launch} {e : Env} {s : State} {m : MethodId} {below : List Frame} {meth : Method} {c : Code} {Q : State → Prop} {D : va_G} {cy : Nat → ClassId} {A : Nat → Prop} {b L : Nat} {xs : Nat → Int32}
set_option maxHeartbeats 8000000 in
set_option maxRecDepth 100000 in
theorem zStart (F : zFk p m c cL_law 7 s #[.ref b] RL D cy A) (hlf : l.stackTraces = false) (hXK : zXK A s s.heap) (hLK : zLK s) (hAO : zAO s) (hX : va_X b L xs s s.heap) (hbl : b < s.heap.size) (hbA : ¬ A b) (hL : L ≤ 3072) (hroom : 1134 ≤ room_1.cells ∧ 2818858 ≤ room_1.slots) {N : Nat} {S0 S' : St × List (Nat × Nat) × Nat × Nat}
    (fin : ∀ (H : Heap) (locs : List Loc) (ls : Array Slot) (cc ss : Nat), cc ≤ room_1.cells ∧ ss ≤ room_1.slots → (∀ q ∈ locs, A q.base) → W p l e room_1 s m #[.ref b] below meth c H locs cc ss Q (F0 m 2085 ls [])) (h0 : fLaw_0st = some S0) (h : fLaw N xs (L / 6) 0 S0 = some S') {ls : Array Slot} (hl : lv_has ls 7 [(0, .ref b)]) : W p l e room_1 s m #[.ref b] below meth c s.heap [] 0 0 Q (F0 m 0 ls []) := by
  have hA := F.2.2.2.2.2.2.2
  unfold fLaw_0st at h0
  replace h0 := zd_some h0
  obtain ⟨S1, h11i, h0⟩ := h0
  obtain ⟨z0, I0⟩ := S1
  have hst0 : zSt (fun _ _ => 0) [] := ⟨List.nodup_nil, ⟨fun _ _ _ h => absurd h List.not_mem_nil, fun _ _ _ h => absurd h List.not_mem_nil⟩, fun _ _ _ _ h => absurd h List.not_mem_nil⟩
  have hr : zRC D cy (fun _ _ => 0) [] A s.heap zz0 [] s.heap [] := ⟨fun k q h => (by cases h), ⟨fun i j p q h => (by cases h), fun k q h => (by cases h)⟩, va_S.rf, zWf_0⟩
  have hc1 : 1134 ≤ room_1.cells := hroom.1
  have hc2 : 2818858 ≤ room_1.slots := hroom.2
  refine zc_new (k := 11) (T := TX11) (N := 21) (fs := [.null, .int 0, .null, .int 0, .int 0, .int 0, .int 0, .int 0, .int 0, .null, .null, .null, .int 0, .null, .null, .int 0, .null, .null, .null, .int 0, .null]) tyX11 tyX11_ok rfl inX11 zv_29 zv_30 zv_1 F hr (by decide +kernel) (Nat.le_trans (Nat.le_of_ble_eq_true rfl) hc1) (Nat.le_trans (Nat.le_of_ble_eq_true rfl) hc2) dL_law_0 (fun q H hr => ?_)
  refine lv_dup F.1 F.2.1 dL_law_3 rfl ?_
  refine zK_call (cs := []) (As := []) (rest := [.ref q]) hAO zv_31 rfl zv_32 zv_33 zv_1 hdLX11_init (okX11_init l D cy q h11i) F hr hl.1 rfl (Nat.le_of_ble_eq_true rfl) dL_law_4 ⟨Nat.le_of_ble_eq_true rfl, Nat.le_of_ble_eq_true rfl⟩ ⟨Nat.le_trans (Nat.le_of_ble_eq_true rfl) hc1, Nat.le_trans (Nat.le_of_ble_eq_true rfl) hc2⟩ (fun H locs cs1 hp hr1 => ?_)
  clear hr
  obtain ⟨B0, hB0, hst, h9, hW0, h11, rfl⟩ := hp
  subst hB0
  have hr := hr1
  have hD0 : ∀ z2, va_D A (zw cy B0 I0 z2) := fun z2 => zD_any (z := z0) hr.2.1 z2
  have hr : zRep D cy B0 I0 A s.heap z0 H locs := ⟨hr.1, hr.2.2.1, hW0⟩
  have Fx := zFk_x F hst hD0
  refine lv_astore_n (lv' := [(1, .ref (B0 11 0)), (0, .ref b)]) F.1 F.2.1 dL_law_7 rfl hl (by decide) rfl (fun ls hl => ?_)
  replace h0 := zqc_some h0
  obtain ⟨hfr1, h0⟩ := h0
  refine zc_new (k := 19) (T := TX19) (N := 32) (fs := [.null, .null, .int 0, .null, .null, .null, .null, .int 0, .null, .null, .null, .int 0, .null, .null, .null, .null, .null, .int 0, .null, .int 0, .null, .int 0, .null, .int 0, .int 0, .int 0, .int 0, .int 0, .null, .null, .null, .null]) tyX19 tyX19_ok rfl inX19 zv_1871 zv_1872 zv_4 F (zRC_of Fx hr) (by decide +kernel) (Nat.le_trans (Nat.le_of_ble_eq_true rfl) hc1) (Nat.le_trans (Nat.le_of_ble_eq_true rfl) hc2) dL_law_8 (fun q H hq => ?_)
  refine lv_dup F.1 F.2.1 dL_law_11 rfl ?_
  refine zK_call (cs := []) (As := []) (rest := [.ref q]) hAO zv_1873 rfl zv_1874 zv_1875 zv_4 hdLX19_init (okX19_init l D cy q) F hq hl.1 rfl (Nat.le_of_ble_eq_true rfl) dL_law_12 ⟨Nat.le_of_ble_eq_true rfl, Nat.le_of_ble_eq_true rfl⟩ ⟨Nat.le_trans (Nat.le_of_ble_eq_true rfl) hc1, Nat.le_trans (Nat.le_of_ble_eq_true rfl) hc2⟩ (fun H locs cs1 hp hq => ?_)
  obtain ⟨w1, w2, w3, w4, w5, w6, w7, w8, w9, w10, w11, w12, w13, w14, w15, w16, w17, w18, w19, w20, w21, rfl⟩ := hp
  obtain ⟨B1, hB1, eo1, hst, hD1, h9, hr⟩ := zmkX19 hst h9 0 hfr1 hq
  clear hq
  generalize eI1 : I0 ++ znmX19 0 = I1 at hst hD1 h9 hr
  have Fx1 := zFk_x F hst hD1
  have hi1 : ∀ k o, (k, o) ∈ I0 → (k, o) ∈ I1 := fun k o h => eI1 ▸ List.mem_append_left _ h
  have h19 : (19, 0) ∈ I1 := eI1 ▸ List.mem_append_right _ (List.mem_of_getElem? (l := znmX19 0) (i := 0) rfl)
  obtain ⟨z1, ez1⟩ : ∃ y, y = zmg (znmX19 0) (zmwX19 0) z0 := ⟨_, rfl⟩
  rw [← ez1] at hr
  replace h0 := zl_sub ez1 h0
  replace h0 := zl_sub eI1.symm h0
  replace hl : lv_has ls 7 [(1, .ref (B1 11 0)), (0, .ref b)] := by
    rw [hB1 11 0 h11]; exact hl
  have h11' := hi1 _ _ h11
  subst eo1
  refine lv_astore_n (lv' := [(2, .ref (B1 19 0)), (1, .ref (B1 11 0)), (0, .ref b)]) F.1 F.2.1 dL_law_15 rfl hl (by decide) rfl (fun ls hl => ?_)
  refine lv_iconst (v := (1 : Int32)) F.1 F.2.1 dL_law_16 (by decide) ?_
  replace h0 := zqc_some h0
  obtain ⟨hfr2, h0⟩ := h0
  refine zc_newa (atype := .long) (ty := .long) (N' := 1) (t0 := 2) (a0 := (1, .inr (.inl (fun _ => 0)))) rfl rfl zv_193 F (zRC_of Fx1 hr) (fun cA => zarr_l cA _) (by decide) (by decide) (Nat.le_of_ble_eq_true rfl) (Nat.le_trans (Nat.le_of_ble_eq_true rfl) hc1) (Nat.le_trans (Nat.le_of_ble_eq_true rfl) hc2) dL_law_17 (fun q H hq => ?_)
  obtain ⟨B2, hB2, eo2, hst, hD2, h9, hr⟩ := zmk193 hst h9 0 hfr2 hq
  clear hq
  generalize eI2 : I1 ++ znm193 0 = I2 at hst hD2 h9 hr h0
  have Fx2 := zFk_x F hst hD2
  have hi2 : ∀ k o, (k, o) ∈ I1 → (k, o) ∈ I2 := fun k o h => eI2 ▸ List.mem_append_left _ h
  have h193 : (193, 0) ∈ I2 := eI2 ▸ List.mem_append_right _ (List.mem_of_getElem? (l := znm193 0) (i := 0) rfl)
  replace hl : lv_has ls 7 [(2, .ref (B2 19 0)), (1, .ref (B2 11 0)), (0, .ref b)] := by
    rw [hB2 19 0 h19, hB2 11 0 h11']; exact hl
  subst eo2
  refine lv_astore_n (lv' := [(3, .ref (B2 193 0)), (2, .ref (B2 19 0)), (1, .ref (B2 11 0)), (0, .ref b)]) F.1 F.2.1 dL_law_19 rfl hl (by decide) rfl (fun ls hl => ?_)
  refine lv_iconst (v := (0 : Int32)) F.1 F.2.1 dL_law_20 (by decide) ?_
  refine lv_istore (lv' := [(4, .int (0 : Int32)), (3, .ref (B2 193 0)), (2, .ref (B2 19 0)), (1, .ref (B2 11 0)), (0, .ref b)]) F.1 F.2.1 dL_law_21 hl (by decide) rfl (fun ls hl => ?_)
  obtain rfl := Option.some.inj h0
  exact W.widen (k := 1134) (n := 2818858) (Nat.le_of_ble_eq_true rfl) (Nat.le_of_ble_eq_true rfl) (lLaw hA hlf hXK hLK hAO hX hbl hbA hL fin (L / 6) 0 hst h9 Fx2 (hi2 _ _ h11') (hi2 _ _ h19) h193 hroom rfl hr (lv_sub hl [4, 3, 2, 1, 0] rfl) h)
end ZST
