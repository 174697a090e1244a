theorem zq_1015 : Cond.methodLink RL 32 yX11_fates ∈ zGW := zmem 1015 (by decide +kernel) (by decide +kernel)
theorem zq_1016 : Cond.instanceMethod yX11_fates ∈ zGW := zmem 1016 (by decide +kernel) (by decide +kernel)
theorem zq_1018 : Cond.code yX11_fates cX11_fates 7 (some .int) ∈ zGW := zmem 1018 (by decide +kernel) (by decide +kernel)
theorem zq_1028 : Cond.methodLink RL 36 yX11_run ∈ zGW := zmem 1028 (by decide +kernel) (by decide +kernel)
theorem zq_1029 : Cond.instanceMethod yX11_run ∈ zGW := zmem 1029 (by decide +kernel) (by decide +kernel)
theorem zq_1031 : Cond.code yX11_run cX11_run 5 (some .int) ∈ zGW := zmem 1031 (by decide +kernel) (by decide +kernel)
theorem zq_1680 : Cond.methodLink RL 40 yX11_listen ∈ zGW := zmem 1680 (by decide +kernel) (by decide +kernel)
theorem zq_1681 : Cond.instanceMethod yX11_listen ∈ zGW := zmem 1681 (by decide +kernel) (by decide +kernel)
theorem zq_1683 : Cond.code yX11_listen cX11_listen 6 (some .int) ∈ zGW := zmem 1683 (by decide +kernel) (by decide +kernel)
theorem zq_1702 : Cond.methodLink RL 43 yX11_open ∈ zGW := zmem 1702 (by decide +kernel) (by decide +kernel)
theorem zq_1703 : Cond.instanceMethod yX11_open ∈ zGW := zmem 1703 (by decide +kernel) (by decide +kernel)
theorem zq_1705 : Cond.code yX11_open cX11_open 8 (some .int) ∈ zGW := zmem 1705 (by decide +kernel) (by decide +kernel)
theorem zq_1717 : Cond.methodLink RL 46 yX11_accept ∈ zGW := zmem 1717 (by decide +kernel) (by decide +kernel)
theorem zq_1718 : Cond.instanceMethod yX11_accept ∈ zGW := zmem 1718 (by decide +kernel) (by decide +kernel)
theorem zq_1720 : Cond.code yX11_accept cX11_accept 7 (some .int) ∈ zGW := zmem 1720 (by decide +kernel) (by decide +kernel)
theorem zq_1730 : Cond.methodLink RL 49 yX11_write ∈ zGW := zmem 1730 (by decide +kernel) (by decide +kernel)
theorem zq_1731 : Cond.instanceMethod yX11_write ∈ zGW := zmem 1731 (by decide +kernel) (by decide +kernel)
theorem zq_1733 : Cond.code yX11_write cX11_write 9 (some .int) ∈ zGW := zmem 1733 (by decide +kernel) (by decide +kernel)
theorem zq_1756 : Cond.methodLink RL 53 yX11_fill ∈ zGW := zmem 1756 (by decide +kernel) (by decide +kernel)
theorem zq_1757 : Cond.instanceMethod yX11_fill ∈ zGW := zmem 1757 (by decide +kernel) (by decide +kernel)
theorem zq_1759 : Cond.code yX11_fill cX11_fill 9 (some .int) ∈ zGW := zmem 1759 (by decide +kernel) (by decide +kernel)
theorem zq_1764 : Cond.methodLink RL 57 yX11_read ∈ zGW := zmem 1764 (by decide +kernel) (by decide +kernel)
theorem zq_1765 : Cond.instanceMethod yX11_read ∈ zGW := zmem 1765 (by decide +kernel) (by decide +kernel)
theorem zq_1767 : Cond.code yX11_read cX11_read 4 (some .int) ∈ zGW := zmem 1767 (by decide +kernel) (by decide +kernel)
theorem zq_1777 : Cond.methodLink RL 60 yX11_readAll ∈ zGW := zmem 1777 (by decide +kernel) (by decide +kernel)
theorem zq_1778 : Cond.instanceMethod yX11_readAll ∈ zGW := zmem 1778 (by decide +kernel) (by decide +kernel)
theorem zq_1780 : Cond.code yX11_readAll cX11_readAll 7 (some .int) ∈ zGW := zmem 1780 (by decide +kernel) (by decide +kernel)
theorem zq_1784 : Cond.methodLink RL 63 yX11_close ∈ zGW := zmem 1784 (by decide +kernel) (by decide +kernel)
theorem zq_1785 : Cond.instanceMethod yX11_close ∈ zGW := zmem 1785 (by decide +kernel) (by decide +kernel)
theorem zq_1787 : Cond.code yX11_close cX11_close 5 none ∈ zGW := zmem 1787 (by decide +kernel) (by decide +kernel)
theorem zq_1805 : Cond.methodLink RL 67 yX11_abort ∈ zGW := zmem 1805 (by decide +kernel) (by decide +kernel)
theorem zq_1806 : Cond.instanceMethod yX11_abort ∈ zGW := zmem 1806 (by decide +kernel) (by decide +kernel)
theorem zq_1808 : Cond.code yX11_abort cX11_abort 4 none ∈ zGW := zmem 1808 (by decide +kernel) (by decide +kernel)
theorem zq_1813 : Cond.methodLink RL 70 yX11_door ∈ zGW := zmem 1813 (by decide +kernel) (by decide +kernel)
theorem zq_1814 : Cond.instanceMethod yX11_door ∈ zGW := zmem 1814 (by decide +kernel) (by decide +kernel)
theorem zq_1816 : Cond.code yX11_door cX11_door 6 (some .int) ∈ zGW := zmem 1816 (by decide +kernel) (by decide +kernel)
theorem zq_1821 : Cond.methodLink RL 73 yX11_way ∈ zGW := zmem 1821 (by decide +kernel) (by decide +kernel)
theorem zq_1822 : Cond.instanceMethod yX11_way ∈ zGW := zmem 1822 (by decide +kernel) (by decide +kernel)
theorem zq_1824 : Cond.code yX11_way cX11_way 6 (some .int) ∈ zGW := zmem 1824 (by decide +kernel) (by decide +kernel)
theorem zq_1829 : Cond.methodLink RL 76 yX11_friends ∈ zGW := zmem 1829 (by decide +kernel) (by decide +kernel)
theorem zq_1830 : Cond.instanceMethod yX11_friends ∈ zGW := zmem 1830 (by decide +kernel) (by decide +kernel)
theorem zq_1832 : Cond.code yX11_friends cX11_friends 6 (some .boolean) ∈ zGW := zmem 1832 (by decide +kernel) (by decide +kernel)
theorem zq_1837 : Cond.methodLink RL 80 yX11_advert ∈ zGW := zmem 1837 (by decide +kernel) (by decide +kernel)
theorem zq_1838 : Cond.instanceMethod yX11_advert ∈ zGW := zmem 1838 (by decide +kernel) (by decide +kernel)
theorem zq_1840 : Cond.code yX11_advert cX11_advert 5 (some .int) ∈ zGW := zmem 1840 (by decide +kernel) (by decide +kernel)
theorem zq_1844 : Cond.methodLink RL 83 yX11_count ∈ zGW := zmem 1844 (by decide +kernel) (by decide +kernel)
theorem zq_1845 : Cond.instanceMethod yX11_count ∈ zGW := zmem 1845 (by decide +kernel) (by decide +kernel)
theorem zq_1847 : Cond.code yX11_count cX11_count 4 (some .int) ∈ zGW := zmem 1847 (by decide +kernel) (by decide +kernel)
theorem zq_1853 : Cond.methodLink RL 86 yX11_shouldCost ∈ zGW := zmem 1853 (by decide +kernel) (by decide +kernel)
theorem zq_1854 : Cond.instanceMethod yX11_shouldCost ∈ zGW := zmem 1854 (by decide +kernel) (by decide +kernel)
theorem zq_1856 : Cond.code yX11_shouldCost cX11_shouldCost 5 (some .int) ∈ zGW := zmem 1856 (by decide +kernel) (by decide +kernel)
theorem zq_1860 : Cond.methodLink RL 89 yX11_drain ∈ zGW := zmem 1860 (by decide +kernel) (by decide +kernel)
theorem zq_1861 : Cond.instanceMethod yX11_drain ∈ zGW := zmem 1861 (by decide +kernel) (by decide +kernel)
theorem zq_1863 : Cond.code yX11_drain cX11_drain 5 none ∈ zGW := zmem 1863 (by decide +kernel) (by decide +kernel)
theorem zq_1867 : Cond.methodLink RL 93 yX11_drained ∈ zGW := zmem 1867 (by decide +kernel) (by decide +kernel)
theorem zq_1868 : Cond.instanceMethod yX11_drained ∈ zGW := zmem 1868 (by decide +kernel) (by decide +kernel)
theorem zq_1870 : Cond.code yX11_drained cX11_drained 4 (some .int) ∈ zGW := zmem 1870 (by decide +kernel) (by decide +kernel)
theorem zq_330 : Cond.classLink RL 13 "java/lang/IllegalStateException" ∈ zGW := zmem 330 (by decide +kernel) (by decide +kernel)
theorem zq_331 : Cond.methodLink RL 7 yX11_box ∈ zGW := zmem 331 (by decide +kernel) (by decide +kernel)
theorem zq_332 : Cond.instanceMethod yX11_box ∈ zGW := zmem 332 (by decide +kernel) (by decide +kernel)
theorem zq_334 : Cond.code yX11_box cX11_box 2 (some .int) ∈ zGW := zmem 334 (by decide +kernel) (by decide +kernel)
theorem zq_865 : Cond.classLink RL 19 "java/lang/IllegalArgumentException" ∈ zGW := zmem 865 (by decide +kernel) (by decide +kernel)
theorem zq_866 : Cond.methodLink RL 15 yX11_net ∈ zGW := zmem 866 (by decide +kernel) (by decide +kernel)
theorem zq_867 : Cond.instanceMethod yX11_net ∈ zGW := zmem 867 (by decide +kernel) (by decide +kernel)
theorem zq_869 : Cond.code yX11_net cX11_net 3 (some .int) ∈ zGW := zmem 869 (by decide +kernel) (by decide +kernel)
theorem zq_895 : Cond.methodLink RL 21 yX11_join ∈ zGW := zmem 895 (by decide +kernel) (by decide +kernel)
theorem zq_896 : Cond.instanceMethod yX11_join ∈ zGW := zmem 896 (by decide +kernel) (by decide +kernel)
theorem zq_898 : Cond.code yX11_join cX11_join 7 (some .int) ∈ zGW := zmem 898 (by decide +kernel) (by decide +kernel)
theorem zq_981 : Cond.methodLink RL 24 yX11_cost ∈ zGW := zmem 981 (by decide +kernel) (by decide +kernel)
theorem zq_982 : Cond.instanceMethod yX11_cost ∈ zGW := zmem 982 (by decide +kernel) (by decide +kernel)
theorem zq_984 : Cond.code yX11_cost cX11_cost 7 (some .int) ∈ zGW := zmem 984 (by decide +kernel) (by decide +kernel)
theorem zq_995 : Cond.methodLink RL 28 yX11_link ∈ zGW := zmem 995 (by decide +kernel) (by decide +kernel)
theorem zq_996 : Cond.instanceMethod yX11_link ∈ zGW := zmem 996 (by decide +kernel) (by decide +kernel)
theorem zq_998 : Cond.code yX11_link cX11_link 4 (some .boolean) ∈ zGW := zmem 998 (by decide +kernel) (by decide +kernel)
theorem zs_X11_abort : Cond.selects yX11_abort.cls yX11_abort yX11_abort ∈ zGW := zmem 1807 (by decide +kernel) (by decide +kernel)
theorem zs_X11_accept : Cond.selects yX11_accept.cls yX11_accept yX11_accept ∈ zGW := zmem 1719 (by decide +kernel) (by decide +kernel)
theorem zs_X11_advert : Cond.selects yX11_advert.cls yX11_advert yX11_advert ∈ zGW := zmem 1839 (by decide +kernel) (by decide +kernel)
theorem zs_X11_box : Cond.selects yX11_box.cls yX11_box yX11_box ∈ zGW := zmem 333 (by decide +kernel) (by decide +kernel)
theorem zs_X11_close : Cond.selects yX11_close.cls yX11_close yX11_close ∈ zGW := zmem 1786 (by decide +kernel) (by decide +kernel)
theorem zs_X11_cost : Cond.selects yX11_cost.cls yX11_cost yX11_cost ∈ zGW := zmem 983 (by decide +kernel) (by decide +kernel)
theorem zs_X11_count : Cond.selects yX11_count.cls yX11_count yX11_count ∈ zGW := zmem 1846 (by decide +kernel) (by decide +kernel)
theorem zs_X11_door : Cond.selects yX11_door.cls yX11_door yX11_door ∈ zGW := zmem 1815 (by decide +kernel) (by decide +kernel)
theorem zs_X11_drain : Cond.selects yX11_drain.cls yX11_drain yX11_drain ∈ zGW := zmem 1862 (by decide +kernel) (by decide +kernel)
theorem zs_X11_drained : Cond.selects yX11_drained.cls yX11_drained yX11_drained ∈ zGW := zmem 1869 (by decide +kernel) (by decide +kernel)
theorem zs_X11_fates : Cond.selects yX11_fates.cls yX11_fates yX11_fates ∈ zGW := zmem 1017 (by decide +kernel) (by decide +kernel)
theorem zs_X11_fill : Cond.selects yX11_fill.cls yX11_fill yX11_fill ∈ zGW := zmem 1758 (by decide +kernel) (by decide +kernel)
theorem zs_X11_friends : Cond.selects yX11_friends.cls yX11_friends yX11_friends ∈ zGW := zmem 1831 (by decide +kernel) (by decide +kernel)
theorem zs_X11_join : Cond.selects yX11_join.cls yX11_join yX11_join ∈ zGW := zmem 897 (by decide +kernel) (by decide +kernel)
theorem zs_X11_link : Cond.selects yX11_link.cls yX11_link yX11_link ∈ zGW := zmem 997 (by decide +kernel) (by decide +kernel)
theorem zs_X11_listen : Cond.selects yX11_listen.cls yX11_listen yX11_listen ∈ zGW := zmem 1682 (by decide +kernel) (by decide +kernel)
theorem zs_X11_net : Cond.selects yX11_net.cls yX11_net yX11_net ∈ zGW := zmem 868 (by decide +kernel) (by decide +kernel)
theorem zs_X11_open : Cond.selects yX11_open.cls yX11_open yX11_open ∈ zGW := zmem 1704 (by decide +kernel) (by decide +kernel)
theorem zs_X11_read : Cond.selects yX11_read.cls yX11_read yX11_read ∈ zGW := zmem 1766 (by decide +kernel) (by decide +kernel)
theorem zs_X11_readAll : Cond.selects yX11_readAll.cls yX11_readAll yX11_readAll ∈ zGW := zmem 1779 (by decide +kernel) (by decide +kernel)
theorem zs_X11_run : Cond.selects yX11_run.cls yX11_run yX11_run ∈ zGW := zmem 1030 (by decide +kernel) (by decide +kernel)
theorem zs_X11_shouldCost : Cond.selects yX11_shouldCost.cls yX11_shouldCost yX11_shouldCost ∈ zGW := zmem 1855 (by decide +kernel) (by decide +kernel)
theorem zs_X11_way : Cond.selects yX11_way.cls yX11_way yX11_way ∈ zGW := zmem 1823 (by decide +kernel) (by decide +kernel)
theorem zs_X11_write : Cond.selects yX11_write.cls yX11_write yX11_write ∈ zGW := zmem 1732 (by decide +kernel) (by decide +kernel)
abbrev rmL_box_0 (RC RS : Nat) : Room := { frames := 7, cells := RC, slots := RS, locals := 121 }
theorem hdL_box : yL_box.cls ≠ "java/lang/invoke/MethodHandle" ∧ yL_box.cls ≠ "java/lang/invoke/VarHandle" ∧ (parseMethodDescriptor yL_box.desc).map (fun d => d.parameters.length) = some 3 := by decide +kernel
noncomputable def fL_box_0 (N RC RS : Nat) (x0 : Nat) (x2 : Nat) (ids : List (Nat × Nat)) (z : St) : Option (Int32 × St × List (Nat × Nat)) := match fX11_box_0 N RC RS x0 ids z with
  | some (.inl v, z1, I1) => some ((0 : Int32), zsL z1 193 x2 (Int32.toNatClampNeg (0 : Int32)) (Int32.toInt64 v), I1)
  | some (.inr k9, z1, I1) => if k9 = 1 then none else some ((1 : Int32), z1, I1)
  | none => none
set_option maxHeartbeats 4000000 in
set_option maxRecDepth 100000 in
theorem okL_box_0 (l : Launch) (hlf : l.stackTraces = false) (D : va_G) (cy : Nat → ClassId) (B : Nat → Nat → Nat) (ids : List (Nat × Nat)) (hst : zSt B ids) (N : Nat) (RC RS : Nat) (h9 : zI9 ids) (x0 : Nat) (hx0 : (11, x0) ∈ ids) (x2 : Nat) (hx2 : (193, x2) ∈ ids) {z : St} {k : Int32} {z' : St} {I' : List (Nat × Nat)} (hW : zWf ids z) (h : fL_box_0 N RC RS x0 x2 ids z = some (k, z', I')) : zMlm l yL_box (zwsH yL_box cL_box 4 (some .int) [(0, 9, 12, 13)]) (rmL_box_0 RC RS) D cy B ids [.ref (B 11 x0), .int (0 : Int32), .ref (B 193 x2)] k z z' I' := by
  refine zMlm_of hst hW (by decide +kernel) (Nat.le_of_ble_eq_true rfl) (fun p e s m args below meth c A ls F hA hret hlocks htab hX hLK hAO hr hl => ?_)
  unfold fL_box_0 at h
  rcases hf : fX11_box_0 N RC RS x0 ids z with _ | ⟨r, z1, I1⟩
  · rw [hf] at h; cases h
  rw [hf] at h
  refine lv_aload_n F.1 F.2.1 dL_box_0 rfl (lv_at hl 2 rfl) ?_
  refine lv_iconst (v := (0 : Int32)) F.1 F.2.1 dL_box_1 (by decide) ?_
  refine lv_aload_n F.1 F.2.1 dL_box_2 rfl (lv_at hl 0 rfl) ?_
  refine lv_iload_n F.1 F.2.1 dL_box_3 rfl (lv_at hl 1 rfl) ?_
  refine zL_splitm (zLrunVm hX hAO hA (As := [.int (0 : Int32)]) (rest := [.int (0 : Int32), .ref (B 193 x2)]) zq_331 zq_332 zs_X11_box zq_334 zq_1 hdX11_box (by decide) (T := TX11) (N := 21) rfl (okX11_box_0 l hlf D cy B ids hst h9 N RC RS x0 hx0  hr.2.2 hf) F hr hx0 hl.1 rfl (Nat.le_of_ble_eq_true rfl) dL_box_4 ⟨Nat.le_of_ble_eq_true rfl, Nat.le_of_ble_eq_true rfl⟩ ⟨Nat.le_of_eq (Nat.zero_add _), Nat.le_of_eq (Nat.zero_add _)⟩) F hA hr (fun v H locs B1 e0 hx hst1 h91 F1 hr => ?_) (fun k9 H locs q9 ce e0 eI hr hq hv hcl => ?_)
  · subst e0
    replace h : some ((0 : Int32), zsL z1 193 x2 (Int32.toNatClampNeg (0 : Int32)) (Int32.toInt64 v), I1) = some (k, z', I') := h
    replace hl : lv_has ls 4 [(0, .ref (B1 11 x0)), (1, .int (0 : Int32)), (2, .ref (B1 193 x2))] := by
      rw [(hx 11 x0 hx0).2, (hx 193 x2 hx2).2]; exact hl
    rw [← (hx 193 x2 hx2).2]
    refine lv_i2l F1.1 F1.2.1 dL_box_7 rfl ?_
    refine zr_last (k := 193) (by decide) rfl (by decide) F1 (hx 193 x2 hx2).1 hr dL_box_8 (by unfold vp_in; decide) (fun H locs z3 ez3 hr => ?_)
    subst ez3
    refine lv_goto (tgt := 15) F1.1 F1.2.1 dL_box_9 (by decide) ?_
    refine lv_iconst (v := (0 : Int32)) F1.1 F1.2.1 dL_box_15 (by decide) ?_
    obtain ⟨rfl, rfl, rfl⟩ := zret3 h
    exact zme_i F1 hx hst1 h91 hret hlocks dL_box_16 hr (Nat.le_of_eq (Nat.zero_add _)) (Nat.le_of_eq (Nat.zero_add _))
  · subst e0
    replace h : (if k9 = 1 then none else some ((1 : Int32), z1, I1)) = some (k, z', I') := h
    by_cases k1 : k9 = 1
    · replace h := zi_t k1 h
      cases h
    · replace h := zi_f k1 h
      refine vx_catch F.2.2.2.1 [] _ _ htab (fun z hz => absurd hz List.not_mem_nil) (by decide) (by decide) (F.2.2.2.2.1 _ zq_330) (zLK_2 k1 hLK) hq hv hcl ?_
      refine lv_astore_n (lv' := [(3, .ref q9), (0, .ref (B 11 x0)), (1, .int (0 : Int32)), (2, .ref (B 193 x2))]) F.1 F.2.1 dL_box_12 rfl hl (by decide) rfl (fun ls hl => ?_)
      refine lv_iconst (v := (1 : Int32)) F.1 F.2.1 dL_box_13 (by decide) ?_
      obtain ⟨rfl, rfl, rfl⟩ := zret3 h
      subst eI
      exact zme_i F (zExt_rf B _) hst h9 hret hlocks dL_box_14 hr (Nat.le_of_eq (Nat.zero_add _)) (Nat.le_of_eq (Nat.zero_add _))
abbrev rmL_box_1 (RC RS : Nat) : Room := { frames := 7, cells := RC, slots := RS, locals := 121 }
noncomputable def fL_box_1 (N RC RS : Nat) (x0 : Nat) (x2 : Nat) (ids : List (Nat × Nat)) (z : St) : Option (Int32 × St × List (Nat × Nat)) := match fX11_box_1 N RC RS x0 ids z with
  | some (.inl v, z1, I1) => some ((0 : Int32), zsL z1 193 x2 (Int32.toNatClampNeg (0 : Int32)) (Int32.toInt64 v), I1)
  | some (.inr k9, z1, I1) => if k9 = 1 then none else some ((1 : Int32), z1, I1)
  | none => none
set_option maxHeartbeats 4000000 in
set_option maxRecDepth 100000 in
theorem okL_box_1 (l : Launch) (hlf : l.stackTraces = false) (D : va_G) (cy : Nat → ClassId) (B : Nat → Nat → Nat) (ids : List (Nat × Nat)) (hst : zSt B ids) (N : Nat) (RC RS : Nat) (h9 : zI9 ids) (x0 : Nat) (hx0 : (11, x0) ∈ ids) (x2 : Nat) (hx2 : (193, x2) ∈ ids) {z : St} {k : Int32} {z' : St} {I' : List (Nat × Nat)} (hW : zWf ids z) (h : fL_box_1 N RC RS x0 x2 ids z = some (k, z', I')) : zMlm l yL_box (zwsH yL_box cL_box 4 (some .int) [(0, 9, 12, 13)]) (rmL_box_1 RC RS) D cy B ids [.ref (B 11 x0), .int (1 : Int32), .ref (B 193 x2)] k z z' I' := by
  refine zMlm_of hst hW (by decide +kernel) (Nat.le_of_ble_eq_true rfl) (fun p e s m args below meth c A ls F hA hret hlocks htab hX hLK hAO hr hl => ?_)
  unfold fL_box_1 at h
  rcases hf : fX11_box_1 N RC RS x0 ids z with _ | ⟨r, z1, I1⟩
  · rw [hf] at h; cases h
  rw [hf] at h
  refine lv_aload_n F.1 F.2.1 dL_box_0 rfl (lv_at hl 2 rfl) ?_
  refine lv_iconst (v := (0 : Int32)) F.1 F.2.1 dL_box_1 (by decide) ?_
  refine lv_aload_n F.1 F.2.1 dL_box_2 rfl (lv_at hl 0 rfl) ?_
  refine lv_iload_n F.1 F.2.1 dL_box_3 rfl (lv_at hl 1 rfl) ?_
  refine zL_splitm (zLrunVm hX hAO hA (As := [.int (1 : Int32)]) (rest := [.int (0 : Int32), .ref (B 193 x2)]) zq_331 zq_332 zs_X11_box zq_334 zq_1 hdX11_box (by decide) (T := TX11) (N := 21) rfl (okX11_box_1 l hlf D cy B ids hst h9 N RC RS x0 hx0  hr.2.2 hf) F hr hx0 hl.1 rfl (Nat.le_of_ble_eq_true rfl) dL_box_4 ⟨Nat.le_of_ble_eq_true rfl, Nat.le_of_ble_eq_true rfl⟩ ⟨Nat.le_of_eq (Nat.zero_add _), Nat.le_of_eq (Nat.zero_add _)⟩) F hA hr (fun v H locs B1 e0 hx hst1 h91 F1 hr => ?_) (fun k9 H locs q9 ce e0 eI hr hq hv hcl => ?_)
  · subst e0
    replace h : some ((0 : Int32), zsL z1 193 x2 (Int32.toNatClampNeg (0 : Int32)) (Int32.toInt64 v), I1) = some (k, z', I') := h
    replace hl : lv_has ls 4 [(0, .ref (B1 11 x0)), (1, .int (1 : Int32)), (2, .ref (B1 193 x2))] := by
      rw [(hx 11 x0 hx0).2, (hx 193 x2 hx2).2]; exact hl
    rw [← (hx 193 x2 hx2).2]
    refine lv_i2l F1.1 F1.2.1 dL_box_7 rfl ?_
    refine zr_last (k := 193) (by decide) rfl (by decide) F1 (hx 193 x2 hx2).1 hr dL_box_8 (by unfold vp_in; decide) (fun H locs z3 ez3 hr => ?_)
    subst ez3
    refine lv_goto (tgt := 15) F1.1 F1.2.1 dL_box_9 (by decide) ?_
    refine lv_iconst (v := (0 : Int32)) F1.1 F1.2.1 dL_box_15 (by decide) ?_
    obtain ⟨rfl, rfl, rfl⟩ := zret3 h
    exact zme_i F1 hx hst1 h91 hret hlocks dL_box_16 hr (Nat.le_of_eq (Nat.zero_add _)) (Nat.le_of_eq (Nat.zero_add _))
  · subst e0
    replace h : (if k9 = 1 then none else some ((1 : Int32), z1, I1)) = some (k, z', I') := h
    by_cases k1 : k9 = 1
    · replace h := zi_t k1 h
      cases h
    · replace h := zi_f k1 h
      refine vx_catch F.2.2.2.1 [] _ _ htab (fun z hz => absurd hz List.not_mem_nil) (by decide) (by decide) (F.2.2.2.2.1 _ zq_330) (zLK_2 k1 hLK) hq hv hcl ?_
      refine lv_astore_n (lv' := [(3, .ref q9), (0, .ref (B 11 x0)), (1, .int (1 : Int32)), (2, .ref (B 193 x2))]) F.1 F.2.1 dL_box_12 rfl hl (by decide) rfl (fun ls hl => ?_)
      refine lv_iconst (v := (1 : Int32)) F.1 F.2.1 dL_box_13 (by decide) ?_
      obtain ⟨rfl, rfl, rfl⟩ := zret3 h
      subst eI
      exact zme_i F (zExt_rf B _) hst h9 hret hlocks dL_box_14 hr (Nat.le_of_eq (Nat.zero_add _)) (Nat.le_of_eq (Nat.zero_add _))
abbrev rmL_net : Room := { frames := 7, cells := 1, slots := 6, locals := 122 }
theorem hdL_net : yL_net.cls ≠ "java/lang/invoke/MethodHandle" ∧ yL_net.cls ≠ "java/lang/invoke/VarHandle" ∧ (parseMethodDescriptor yL_net.desc).map (fun d => d.parameters.length) = some 4 := by decide +kernel
def fL_net (N : Nat) (x0 : Nat) (x1 : Int32) (x2 : Int32) (x3 : Nat) (z : St) : Option (Int32 × St) := match fX11_net N x0 x1 x2 z with
  | some (.inl v, z1) => some ((0 : Int32), zsL z1 193 x3 (Int32.toNatClampNeg (0 : Int32)) (Int32.toInt64 v))
  | some (.inr k9, z1) => if k9 = 1 then some ((1 : Int32), z1) else some ((2 : Int32), z1)
  | none => none
set_option maxHeartbeats 4000000 in
set_option maxRecDepth 100000 in
theorem okL_net (l : Launch) (hlf : l.stackTraces = false) (D : va_G) (cy : Nat → ClassId) (B : Nat → Nat → Nat) (ids : List (Nat × Nat)) (hst : zSt B ids) (N : Nat) (x0 : Nat) (hx0 : (11, x0) ∈ ids) (x1 : Int32) (x2 : Int32) (x3 : Nat) (hx3 : (193, x3) ∈ ids) {z : St} {k : Int32} {z' : St} (hW : zWf ids z) (h : fL_net N x0 x1 x2 x3 z = some (k, z')) : zMl l yL_net (zwsH yL_net cL_net 5 (some .int) [(0, 10, 13, 19), (0, 10, 17, 13)]) (rmL_net) D cy B ids [.ref (B 11 x0), .int x1, .int x2, .ref (B 193 x3)] k z z' := by
  refine zMl_of hst hW (by decide +kernel) (Nat.le_of_ble_eq_true rfl) (fun p e s m args below meth c A ls F hA hret hlocks htab hX hLK hr hl => ?_)
  unfold fL_net at h
  rcases hf : fX11_net N x0 x1 x2 z with _ | ⟨r, z1⟩
  · rw [hf] at h; cases h
  rw [hf] at h
  refine lv_aload_n F.1 F.2.1 dL_net_0 rfl (lv_at hl 3 rfl) ?_
  refine lv_iconst (v := (0 : Int32)) F.1 F.2.1 dL_net_1 (by decide) ?_
  refine lv_aload_n F.1 F.2.1 dL_net_2 rfl (lv_at hl 0 rfl) ?_
  refine lv_iload_n F.1 F.2.1 dL_net_3 rfl (lv_at hl 1 rfl) ?_
  refine lv_iload_n F.1 F.2.1 dL_net_4 rfl (lv_at hl 2 rfl) ?_
  refine zL_spliti (zLrunV hX hA (As := [.int x1, .int x2]) (rest := [.int (0 : Int32), .ref (B 193 x3)]) zq_866 zq_867 zs_X11_net zq_869 zq_1 hdX11_net (by decide) (T := TX11) (N := 21) rfl (okX11_net l hlf D cy B ids hst N x0 hx0 x1 x2 hr.2.2 hf) F hr hx0 hl.1 rfl (Nat.le_of_ble_eq_true rfl) dL_net_5 ⟨Nat.le_of_ble_eq_true rfl, Nat.le_of_ble_eq_true rfl⟩ ⟨Nat.le_of_ble_eq_true rfl, Nat.le_of_ble_eq_true rfl⟩) F hA hr (fun v H locs e0 hXv hr => ?_) (fun k9 H locs q9 ce e0 hr hq hv hcl => ?_)
  · subst e0
    replace h : some ((0 : Int32), zsL z1 193 x3 (Int32.toNatClampNeg (0 : Int32)) (Int32.toInt64 v)) = some (k, z') := h
    refine lv_i2l F.1 F.2.1 dL_net_8 rfl ?_
    refine zr_last (k := 193) (by decide) rfl (by decide) F hx3 hr dL_net_9 (by unfold vp_in; decide) (fun H locs z3 ez3 hr => ?_)
    subst ez3
    refine lv_goto (tgt := 21) F.1 F.2.1 dL_net_10 (by decide) ?_
    refine lv_iconst (v := (0 : Int32)) F.1 F.2.1 dL_net_21 (by decide) ?_
    obtain ⟨rfl, rfl⟩ := zret h
    exact zLe_i F hret hlocks dL_net_22 hr (Nat.le_of_ble_eq_true rfl) (Nat.le_of_ble_eq_true rfl)
  · subst e0
    replace h : (if k9 = 1 then some ((1 : Int32), z1) else some ((2 : Int32), z1)) = some (k, z') := h
    by_cases k1 : k9 = 1
    · replace h := zi_t k1 h
      subst k1
      refine vx_catch F.2.2.2.1 [] _ _ htab (fun z hz => absurd hz List.not_mem_nil) (by decide) (by decide) (F.2.2.2.2.1 _ zq_865) (zLK_1 hLK) hq hv hcl ?_
      refine lv_astore (lv' := [(4, .ref q9), (0, .ref (B 11 x0)), (1, .int x1), (2, .int x2), (3, .ref (B 193 x3))]) F.1 F.2.1 dL_net_13 hl (by decide) rfl (fun ls hl => ?_)
      refine lv_iconst (v := (1 : Int32)) F.1 F.2.1 dL_net_15 (by decide) ?_
      obtain ⟨rfl, rfl⟩ := zret h
      exact zLe_i F hret hlocks dL_net_16 hr (Nat.le_of_ble_eq_true rfl) (Nat.le_of_ble_eq_true rfl)
    · replace h := zi_f k1 h
      refine vx_catch F.2.2.2.1 [_] _ _ htab (fun z hz => by
          rw [List.mem_singleton] at hz
          subst hz
          exact Or.inr ⟨by decide, _, F.2.2.2.2.1 _ zq_865, zLK_3 k1 hLK⟩) (by decide) (by decide) (F.2.2.2.2.1 _ zq_330) (zLK_2 k1 hLK) hq hv hcl ?_
      refine lv_astore (lv' := [(4, .ref q9), (0, .ref (B 11 x0)), (1, .int x1), (2, .int x2), (3, .ref (B 193 x3))]) F.1 F.2.1 dL_net_17 hl (by decide) rfl (fun ls hl => ?_)
      refine lv_iconst (v := (2 : Int32)) F.1 F.2.1 dL_net_19 (by decide) ?_
      obtain ⟨rfl, rfl⟩ := zret h
      exact zLe_i F hret hlocks dL_net_20 hr (Nat.le_of_ble_eq_true rfl) (Nat.le_of_ble_eq_true rfl)
abbrev rmL_join (RC RS : Nat) : Room := { frames := 7, cells := RC, slots := RS, locals := 126 }
theorem hdL_join : yL_join.cls ≠ "java/lang/invoke/MethodHandle" ∧ yL_join.cls ≠ "java/lang/invoke/VarHandle" ∧ (parseMethodDescriptor yL_join.desc).map (fun d => d.parameters.length) = some 4 := by decide +kernel
noncomputable def fL_join (N RC RS : Nat) (x0 : Nat) (x1 : Int32) (x2 : Int32) (x3 : Nat) (ids : List (Nat × Nat)) (z : St) : Option (Int32 × St × List (Nat × Nat)) := match fX11_join N RC RS x0 x1 x2 ids z with
  | some (.inl v, z1, I1) => some ((0 : Int32), zsL z1 193 x3 (Int32.toNatClampNeg (0 : Int32)) (Int32.toInt64 v), I1)
  | some (.inr k9, z1, I1) => if k9 = 1 then some ((1 : Int32), z1, I1) else some ((2 : Int32), z1, I1)
  | none => none
set_option maxHeartbeats 4000000 in
set_option maxRecDepth 100000 in
theorem okL_join (l : Launch) (hlf : l.stackTraces = false) (D : va_G) (cy : Nat → ClassId) (B : Nat → Nat → Nat) (ids : List (Nat × Nat)) (hst : zSt B ids) (N : Nat) (RC RS : Nat) (h9 : zI9 ids) (x0 : Nat) (hx0 : (11, x0) ∈ ids) (x1 : Int32) (x2 : Int32) (x3 : Nat) (hx3 : (193, x3) ∈ ids) {z : St} {k : Int32} {z' : St} {I' : List (Nat × Nat)} (hW : zWf ids z) (h : fL_join N RC RS x0 x1 x2 x3 ids z = some (k, z', I')) : zMlm l yL_join (zwsH yL_join cL_join 5 (some .int) [(0, 10, 13, 19), (0, 10, 17, 13)]) (rmL_join RC RS) D cy B ids [.ref (B 11 x0), .int x1, .int x2, .ref (B 193 x3)] k z z' I' := by
  refine zMlm_of hst hW (by decide +kernel) (Nat.le_of_ble_eq_true rfl) (fun p e s m args below meth c A ls F hA hret hlocks htab hX hLK hAO hr hl => ?_)
  unfold fL_join at h
  rcases hf : fX11_join N RC RS x0 x1 x2 ids z with _ | ⟨r, z1, I1⟩
  · rw [hf] at h; cases h
  rw [hf] at h
  refine lv_aload_n F.1 F.2.1 dL_join_0 rfl (lv_at hl 3 rfl) ?_
  refine lv_iconst (v := (0 : Int32)) F.1 F.2.1 dL_join_1 (by decide) ?_
  refine lv_aload_n F.1 F.2.1 dL_join_2 rfl (lv_at hl 0 rfl) ?_
  refine lv_iload_n F.1 F.2.1 dL_join_3 rfl (lv_at hl 1 rfl) ?_
  refine lv_iload_n F.1 F.2.1 dL_join_4 rfl (lv_at hl 2 rfl) ?_
  refine zL_splitm (zLrunVm hX hAO hA (As := [.int x1, .int x2]) (rest := [.int (0 : Int32), .ref (B 193 x3)]) zq_895 zq_896 zs_X11_join zq_898 zq_1 hdX11_join (by decide) (T := TX11) (N := 21) rfl (okX11_join l hlf D cy B ids hst h9 N RC RS x0 hx0 x1 x2 hr.2.2 hf) F hr hx0 hl.1 rfl (Nat.le_of_ble_eq_true rfl) dL_join_5 ⟨Nat.le_of_ble_eq_true rfl, Nat.le_of_ble_eq_true rfl⟩ ⟨Nat.le_of_eq (Nat.zero_add _), Nat.le_of_eq (Nat.zero_add _)⟩) F hA hr (fun v H locs B1 e0 hx hst1 h91 F1 hr => ?_) (fun k9 H locs q9 ce e0 eI hr hq hv hcl => ?_)
  · subst e0
    replace h : some ((0 : Int32), zsL z1 193 x3 (Int32.toNatClampNeg (0 : Int32)) (Int32.toInt64 v), I1) = some (k, z', I') := h
    replace hl : lv_has ls 5 [(0, .ref (B1 11 x0)), (1, .int x1), (2, .int x2), (3, .ref (B1 193 x3))] := by
      rw [(hx 11 x0 hx0).2, (hx 193 x3 hx3).2]; exact hl
    rw [← (hx 193 x3 hx3).2]
    refine lv_i2l F1.1 F1.2.1 dL_join_8 rfl ?_
    refine zr_last (k := 193) (by decide) rfl (by decide) F1 (hx 193 x3 hx3).1 hr dL_join_9 (by unfold vp_in; decide) (fun H locs z3 ez3 hr => ?_)
    subst ez3
    refine lv_goto (tgt := 21) F1.1 F1.2.1 dL_join_10 (by decide) ?_
    refine lv_iconst (v := (0 : Int32)) F1.1 F1.2.1 dL_join_21 (by decide) ?_
    obtain ⟨rfl, rfl, rfl⟩ := zret3 h
    exact zme_i F1 hx hst1 h91 hret hlocks dL_join_22 hr (Nat.le_of_eq (Nat.zero_add _)) (Nat.le_of_eq (Nat.zero_add _))
  · subst e0
    replace h : (if k9 = 1 then some ((1 : Int32), z1, I1) else some ((2 : Int32), z1, I1)) = some (k, z', I') := h
    by_cases k1 : k9 = 1
    · replace h := zi_t k1 h
      subst k1
      refine vx_catch F.2.2.2.1 [] _ _ htab (fun z hz => absurd hz List.not_mem_nil) (by decide) (by decide) (F.2.2.2.2.1 _ zq_865) (zLK_1 hLK) hq hv hcl ?_
      refine lv_astore (lv' := [(4, .ref q9), (0, .ref (B 11 x0)), (1, .int x1), (2, .int x2), (3, .ref (B 193 x3))]) F.1 F.2.1 dL_join_13 hl (by decide) rfl (fun ls hl => ?_)
      refine lv_iconst (v := (1 : Int32)) F.1 F.2.1 dL_join_15 (by decide) ?_
      obtain ⟨rfl, rfl, rfl⟩ := zret3 h
      subst eI
      exact zme_i F (zExt_rf B _) hst h9 hret hlocks dL_join_16 hr (Nat.le_of_eq (Nat.zero_add _)) (Nat.le_of_eq (Nat.zero_add _))
    · replace h := zi_f k1 h
      refine vx_catch F.2.2.2.1 [_] _ _ htab (fun z hz => by
          rw [List.mem_singleton] at hz
          subst hz
          exact Or.inr ⟨by decide, _, F.2.2.2.2.1 _ zq_865, zLK_3 k1 hLK⟩) (by decide) (by decide) (F.2.2.2.2.1 _ zq_330) (zLK_2 k1 hLK) hq hv hcl ?_
      refine lv_astore (lv' := [(4, .ref q9), (0, .ref (B 11 x0)), (1, .int x1), (2, .int x2), (3, .ref (B 193 x3))]) F.1 F.2.1 dL_join_17 hl (by decide) rfl (fun ls hl => ?_)
      refine lv_iconst (v := (2 : Int32)) F.1 F.2.1 dL_join_19 (by decide) ?_
      obtain ⟨rfl, rfl, rfl⟩ := zret3 h
      subst eI
      exact zme_i F (zExt_rf B _) hst h9 hret hlocks dL_join_20 hr (Nat.le_of_eq (Nat.zero_add _)) (Nat.le_of_eq (Nat.zero_add _))
abbrev rmL_cost : Room := { frames := 7, cells := 1, slots := 6, locals := 126 }
theorem hdL_cost : yL_cost.cls ≠ "java/lang/invoke/MethodHandle" ∧ yL_cost.cls ≠ "java/lang/invoke/VarHandle" ∧ (parseMethodDescriptor yL_cost.desc).map (fun d => d.parameters.length) = some 5 := by decide +kernel
def fL_cost (N : Nat) (x0 : Nat) (x1 : Int32) (x2 : Int32) (x3 : Int32) (x4 : Nat) (z : St) : Option (Int32 × St) := match fX11_cost N x0 x1 x2 x3 z with
  | some (.inl v, z1) => some ((0 : Int32), zsL z1 193 x4 (Int32.toNatClampNeg (0 : Int32)) (Int32.toInt64 v))
  | some (.inr k9, z1) => if k9 = 1 then some ((1 : Int32), z1) else none
  | none => none
set_option maxHeartbeats 4000000 in
set_option maxRecDepth 100000 in
theorem okL_cost (l : Launch) (hlf : l.stackTraces = false) (D : va_G) (cy : Nat → ClassId) (B : Nat → Nat → Nat) (ids : List (Nat × Nat)) (hst : zSt B ids) (N : Nat) (x0 : Nat) (hx0 : (11, x0) ∈ ids) (x1 : Int32) (x2 : Int32) (x3 : Int32) (x4 : Nat) (hx4 : (193, x4) ∈ ids) {z : St} {k : Int32} {z' : St} (hW : zWf ids z) (h : fL_cost N x0 x1 x2 x3 x4 z = some (k, z')) : zMl l yL_cost (zwsH yL_cost cL_cost 6 (some .int) [(0, 12, 15, 19)]) (rmL_cost) D cy B ids [.ref (B 11 x0), .int x1, .int x2, .int x3, .ref (B 193 x4)] k z z' := by
  refine zMl_of hst hW (by decide +kernel) (Nat.le_of_ble_eq_true rfl) (fun p e s m args below meth c A ls F hA hret hlocks htab hX hLK hr hl => ?_)
  unfold fL_cost at h
  rcases hf : fX11_cost N x0 x1 x2 x3 z with _ | ⟨r, z1⟩
  · rw [hf] at h; cases h
  rw [hf] at h
  refine lv_aload F.1 F.2.1 dL_cost_0 (lv_at hl 4 rfl) ?_
  refine lv_iconst (v := (0 : Int32)) F.1 F.2.1 dL_cost_2 (by decide) ?_
  refine lv_aload_n F.1 F.2.1 dL_cost_3 rfl (lv_at hl 0 rfl) ?_
  refine lv_iload_n F.1 F.2.1 dL_cost_4 rfl (lv_at hl 1 rfl) ?_
  refine lv_iload_n F.1 F.2.1 dL_cost_5 rfl (lv_at hl 2 rfl) ?_
  refine lv_iload_n F.1 F.2.1 dL_cost_6 rfl (lv_at hl 3 rfl) ?_
  refine zL_spliti (zLrunV hX hA (As := [.int x1, .int x2, .int x3]) (rest := [.int (0 : Int32), .ref (B 193 x4)]) zq_981 zq_982 zs_X11_cost zq_984 zq_1 hdX11_cost (by decide) (T := TX11) (N := 21) rfl (okX11_cost l hlf D cy B ids hst N x0 hx0 x1 x2 x3 hr.2.2 hf) F hr hx0 hl.1 rfl (Nat.le_of_ble_eq_true rfl) dL_cost_7 ⟨Nat.le_of_ble_eq_true rfl, Nat.le_of_ble_eq_true rfl⟩ ⟨Nat.le_of_ble_eq_true rfl, Nat.le_of_ble_eq_true rfl⟩) F hA hr (fun v H locs e0 hXv hr => ?_) (fun k9 H locs q9 ce e0 hr hq hv hcl => ?_)
  · subst e0
    replace h : some ((0 : Int32), zsL z1 193 x4 (Int32.toNatClampNeg (0 : Int32)) (Int32.toInt64 v)) = some (k, z') := h
    refine lv_i2l F.1 F.2.1 dL_cost_10 rfl ?_
    refine zr_last (k := 193) (by decide) rfl (by decide) F hx4 hr dL_cost_11 (by unfold vp_in; decide) (fun H locs z3 ez3 hr => ?_)
    subst ez3
    refine lv_goto (tgt := 19) F.1 F.2.1 dL_cost_12 (by decide) ?_
    refine lv_iconst (v := (0 : Int32)) F.1 F.2.1 dL_cost_19 (by decide) ?_
    obtain ⟨rfl, rfl⟩ := zret h
    exact zLe_i F hret hlocks dL_cost_20 hr (Nat.le_of_ble_eq_true rfl) (Nat.le_of_ble_eq_true rfl)
  · subst e0
    replace h : (if k9 = 1 then some ((1 : Int32), z1) else none) = some (k, z') := h
    by_cases k1 : k9 = 1
    · replace h := zi_t k1 h
      subst k1
      refine vx_catch F.2.2.2.1 [] _ _ htab (fun z hz => absurd hz List.not_mem_nil) (by decide) (by decide) (F.2.2.2.2.1 _ zq_865) (zLK_1 hLK) hq hv hcl ?_
      refine lv_astore (lv' := [(5, .ref q9), (0, .ref (B 11 x0)), (1, .int x1), (2, .int x2), (3, .int x3), (4, .ref (B 193 x4))]) F.1 F.2.1 dL_cost_15 hl (by decide) rfl (fun ls hl => ?_)
      refine lv_iconst (v := (1 : Int32)) F.1 F.2.1 dL_cost_17 (by decide) ?_
      obtain ⟨rfl, rfl⟩ := zret h
      exact zLe_i F hret hlocks dL_cost_18 hr (Nat.le_of_ble_eq_true rfl) (Nat.le_of_ble_eq_true rfl)
    · replace h := zi_f k1 h
      cases h
abbrev rmL_link : Room := { frames := 7, cells := 1, slots := 6, locals := 123 }
theorem hdL_link : yL_link.cls ≠ "java/lang/invoke/MethodHandle" ∧ yL_link.cls ≠ "java/lang/invoke/VarHandle" ∧ (parseMethodDescriptor yL_link.desc).map (fun d => d.parameters.length) = some 4 := by decide +kernel
def fL_link (N : Nat) (x0 : Nat) (x1 : Int32) (x2 : Int32) (x3 : Nat) (z : St) : Option (Int32 × St) := match fX11_link N x0 x1 x2 z with
  | some (.inl v, z1) => some ((0 : Int32), zsL z1 193 x3 (Int32.toNatClampNeg (0 : Int32)) (if v = 0 then (0 : Int64) else (1 : Int64)))
  | some (.inr k9, z1) => if k9 = 1 then some ((1 : Int32), z1) else none
  | none => none
set_option maxHeartbeats 4000000 in
set_option maxRecDepth 100000 in
theorem okL_link (l : Launch) (hlf : l.stackTraces = false) (D : va_G) (cy : Nat → ClassId) (B : Nat → Nat → Nat) (ids : List (Nat × Nat)) (hst : zSt B ids) (N : Nat) (x0 : Nat) (hx0 : (11, x0) ∈ ids) (x1 : Int32) (x2 : Int32) (x3 : Nat) (hx3 : (193, x3) ∈ ids) {z : St} {k : Int32} {z' : St} (hW : zWf ids z) (h : fL_link N x0 x1 x2 x3 z = some (k, z')) : zMl l yL_link (zwsH yL_link cL_link 5 (some .int) [(0, 17, 20, 19)]) (rmL_link) D cy B ids [.ref (B 11 x0), .int x1, .int x2, .ref (B 193 x3)] k z z' := by
  refine zMl_of hst hW (by decide +kernel) (Nat.le_of_ble_eq_true rfl) (fun p e s m args below meth c A ls F hA hret hlocks htab hX hLK hr hl => ?_)
  unfold fL_link at h
  rcases hf : fX11_link N x0 x1 x2 z with _ | ⟨r, z1⟩
  · rw [hf] at h; cases h
  rw [hf] at h
  refine lv_aload_n F.1 F.2.1 dL_link_0 rfl (lv_at hl 3 rfl) ?_
  refine lv_iconst (v := (0 : Int32)) F.1 F.2.1 dL_link_1 (by decide) ?_
  refine lv_aload_n F.1 F.2.1 dL_link_2 rfl (lv_at hl 0 rfl) ?_
  refine lv_iload_n F.1 F.2.1 dL_link_3 rfl (lv_at hl 1 rfl) ?_
  refine lv_iload_n F.1 F.2.1 dL_link_4 rfl (lv_at hl 2 rfl) ?_
  refine zL_spliti (zLrunV hX hA (As := [.int x1, .int x2]) (rest := [.int (0 : Int32), .ref (B 193 x3)]) zq_995 zq_996 zs_X11_link zq_998 zq_1 hdX11_link (by decide) (T := TX11) (N := 21) rfl (okX11_link l hlf D cy B ids hst N x0 hx0 x1 x2 hr.2.2 hf) F hr hx0 hl.1 rfl (Nat.le_of_ble_eq_true rfl) dL_link_5 ⟨Nat.le_of_ble_eq_true rfl, Nat.le_of_ble_eq_true rfl⟩ ⟨Nat.le_of_ble_eq_true rfl, Nat.le_of_ble_eq_true rfl⟩) F hA hr (fun v H locs e0 hXv hr => ?_) (fun k9 H locs q9 ce e0 hr hq hv hcl => ?_)
  · subst e0
    replace h : some ((0 : Int32), zsL z1 193 x3 (Int32.toNatClampNeg (0 : Int32)) (if v = 0 then (0 : Int64) else (1 : Int64))) = some (k, z') := h
    refine lv_if_eq (tgt := 15) F.1 F.2.1 dL_link_8 (by decide) (fun c1 => ?_) (fun c1 => ?_)
    · replace h := h
      rw [if_pos c1] at h
      refine lv_lconst (v := (0 : Int64)) F.1 F.2.1 dL_link_15 (by decide) ?_
      refine zr_last (k := 193) (by decide) rfl (by decide) F hx3 hr dL_link_16 (by unfold vp_in; decide) (fun H locs z3 ez3 hr => ?_)
      subst ez3
      refine lv_goto (tgt := 24) F.1 F.2.1 dL_link_17 (by decide) ?_
      refine lv_iconst (v := (0 : Int32)) F.1 F.2.1 dL_link_24 (by decide) ?_
      obtain ⟨rfl, rfl⟩ := zret h
      exact zLe_i F hret hlocks dL_link_25 hr (Nat.le_of_ble_eq_true rfl) (Nat.le_of_ble_eq_true rfl)
    · rw [if_neg c1] at h
      refine lv_lconst (v := (1 : Int64)) F.1 F.2.1 dL_link_11 (by decide) ?_
      refine lv_goto (tgt := 16) F.1 F.2.1 dL_link_12 (by decide) ?_
      refine zr_last (k := 193) (by decide) rfl (by decide) F hx3 hr dL_link_16 (by unfold vp_in; decide) (fun H locs z3 ez3 hr => ?_)
      subst ez3
      refine lv_goto (tgt := 24) F.1 F.2.1 dL_link_17 (by decide) ?_
      refine lv_iconst (v := (0 : Int32)) F.1 F.2.1 dL_link_24 (by decide) ?_
      obtain ⟨rfl, rfl⟩ := zret h
      exact zLe_i F hret hlocks dL_link_25 hr (Nat.le_of_ble_eq_true rfl) (Nat.le_of_ble_eq_true rfl)
  · subst e0
    replace h : (if k9 = 1 then some ((1 : Int32), z1) else none) = some (k, z') := h
    by_cases k1 : k9 = 1
    · replace h := zi_t k1 h
      subst k1
      refine vx_catch F.2.2.2.1 [] _ _ htab (fun z hz => absurd hz List.not_mem_nil) (by decide) (by decide) (F.2.2.2.2.1 _ zq_865) (zLK_1 hLK) hq hv hcl ?_
      refine lv_astore (lv' := [(4, .ref q9), (0, .ref (B 11 x0)), (1, .int x1), (2, .int x2), (3, .ref (B 193 x3))]) F.1 F.2.1 dL_link_20 hl (by decide) rfl (fun ls hl => ?_)
      refine lv_iconst (v := (1 : Int32)) F.1 F.2.1 dL_link_22 (by decide) ?_
      obtain ⟨rfl, rfl⟩ := zret h
      exact zLe_i F hret hlocks dL_link_23 hr (Nat.le_of_ble_eq_true rfl) (Nat.le_of_ble_eq_true rfl)
    · replace h := zi_f k1 h
      cases h
abbrev rmL_fates : Room := { frames := 7, cells := 1, slots := 6, locals := 126 }
theorem hdL_fates : yL_fates.cls ≠ "java/lang/invoke/MethodHandle" ∧ yL_fates.cls ≠ "java/lang/invoke/VarHandle" ∧ (parseMethodDescriptor yL_fates.desc).map (fun d => d.parameters.length) = some 5 := by decide +kernel
def fL_fates (N : Nat) (x0 : Nat) (x1 : Int32) (x2 : Int64) (x4 : Int32) (x5 : Nat) (z : St) : Option (Int32 × St) := match fX11_fates N x0 x1 x2 x4 z with
  | some (.inl v, z1) => some ((0 : Int32), zsL z1 193 x5 (Int32.toNatClampNeg (0 : Int32)) (Int32.toInt64 v))
  | some (.inr k9, z1) => if k9 = 1 then some ((1 : Int32), z1) else some ((2 : Int32), z1)
  | none => none
set_option maxHeartbeats 4000000 in
set_option maxRecDepth 100000 in
theorem okL_fates (l : Launch) (hlf : l.stackTraces = false) (D : va_G) (cy : Nat → ClassId) (B : Nat → Nat → Nat) (ids : List (Nat × Nat)) (hst : zSt B ids) (N : Nat) (x0 : Nat) (hx0 : (11, x0) ∈ ids) (x1 : Int32) (x2 : Int64) (x4 : Int32) (x5 : Nat) (hx5 : (193, x5) ∈ ids) {z : St} {k : Int32} {z' : St} (hW : zWf ids z) (h : fL_fates N x0 x1 x2 x4 x5 z = some (k, z')) : zMl l yL_fates (zwsH yL_fates cL_fates 7 (some .int) [(0, 13, 16, 19), (0, 13, 20, 13)]) (rmL_fates) D cy B ids [.ref (B 11 x0), .int x1, .long x2, .int x4, .ref (B 193 x5)] k z z' := by
  refine zMl_of hst hW (by decide +kernel) (Nat.le_of_ble_eq_true rfl) (fun p e s m args below meth c A ls F hA hret hlocks htab hX hLK hr hl => ?_)
  unfold fL_fates at h
  rcases hf : fX11_fates N x0 x1 x2 x4 z with _ | ⟨r, z1⟩
  · rw [hf] at h; cases h
  rw [hf] at h
  refine lv_aload F.1 F.2.1 dL_fates_0 (lv_at hl 4 rfl) ?_
  refine lv_iconst (v := (0 : Int32)) F.1 F.2.1 dL_fates_2 (by decide) ?_
  refine lv_aload_n F.1 F.2.1 dL_fates_3 rfl (lv_at hl 0 rfl) ?_
  refine lv_iload_n F.1 F.2.1 dL_fates_4 rfl (lv_at hl 1 rfl) ?_
  refine lv_lload_n F.1 F.2.1 dL_fates_5 rfl (lv_at hl 2 rfl) ?_
  refine lv_iload F.1 F.2.1 dL_fates_6 (lv_at hl 3 rfl) ?_
  refine zL_spliti (zLrunV hX hA (As := [.int x1, .long x2, .int x4]) (rest := [.int (0 : Int32), .ref (B 193 x5)]) zq_1015 zq_1016 zs_X11_fates zq_1018 zq_1 hdX11_fates (by decide) (T := TX11) (N := 21) rfl (okX11_fates l hlf D cy B ids hst N x0 hx0 x1 x2 x4 hr.2.2 hf) F hr hx0 hl.1 rfl (Nat.le_of_ble_eq_true rfl) dL_fates_8 ⟨Nat.le_of_ble_eq_true rfl, Nat.le_of_ble_eq_true rfl⟩ ⟨Nat.le_of_ble_eq_true rfl, Nat.le_of_ble_eq_true rfl⟩) F hA hr (fun v H locs e0 hXv hr => ?_) (fun k9 H locs q9 ce e0 hr hq hv hcl => ?_)
  · subst e0
    replace h : some ((0 : Int32), zsL z1 193 x5 (Int32.toNatClampNeg (0 : Int32)) (Int32.toInt64 v)) = some (k, z') := h
    refine lv_i2l F.1 F.2.1 dL_fates_11 rfl ?_
    refine zr_last (k := 193) (by decide) rfl (by decide) F hx5 hr dL_fates_12 (by unfold vp_in; decide) (fun H locs z3 ez3 hr => ?_)
    subst ez3
    refine lv_goto (tgt := 24) F.1 F.2.1 dL_fates_13 (by decide) ?_
    refine lv_iconst (v := (0 : Int32)) F.1 F.2.1 dL_fates_24 (by decide) ?_
    obtain ⟨rfl, rfl⟩ := zret h
    exact zLe_i F hret hlocks dL_fates_25 hr (Nat.le_of_ble_eq_true rfl) (Nat.le_of_ble_eq_true rfl)
  · subst e0
    replace h : (if k9 = 1 then some ((1 : Int32), z1) else some ((2 : Int32), z1)) = some (k, z') := h
    by_cases k1 : k9 = 1
    · replace h := zi_t k1 h
      subst k1
      refine vx_catch F.2.2.2.1 [] _ _ htab (fun z hz => absurd hz List.not_mem_nil) (by decide) (by decide) (F.2.2.2.2.1 _ zq_865) (zLK_1 hLK) hq hv hcl ?_
      refine lv_astore (lv' := [(6, .ref q9), (0, .ref (B 11 x0)), (1, .int x1), (2, .long x2), (4, .int x4), (5, .ref (B 193 x5))]) F.1 F.2.1 dL_fates_16 hl (by decide) rfl (fun ls hl => ?_)
      refine lv_iconst (v := (1 : Int32)) F.1 F.2.1 dL_fates_18 (by decide) ?_
      obtain ⟨rfl, rfl⟩ := zret h
      exact zLe_i F hret hlocks dL_fates_19 hr (Nat.le_of_ble_eq_true rfl) (Nat.le_of_ble_eq_true rfl)
    · replace h := zi_f k1 h
      refine vx_catch F.2.2.2.1 [_] _ _ htab (fun z hz => by
          rw [List.mem_singleton] at hz
          subst hz
          exact Or.inr ⟨by decide, _, F.2.2.2.2.1 _ zq_865, zLK_3 k1 hLK⟩) (by decide) (by decide) (F.2.2.2.2.1 _ zq_330) (zLK_2 k1 hLK) hq hv hcl ?_
      refine lv_astore (lv' := [(6, .ref q9), (0, .ref (B 11 x0)), (1, .int x1), (2, .long x2), (4, .int x4), (5, .ref (B 193 x5))]) F.1 F.2.1 dL_fates_20 hl (by decide) rfl (fun ls hl => ?_)
      refine lv_iconst (v := (2 : Int32)) F.1 F.2.1 dL_fates_22 (by decide) ?_
      obtain ⟨rfl, rfl⟩ := zret h
      exact zLe_i F hret hlocks dL_fates_23 hr (Nat.le_of_ble_eq_true rfl) (Nat.le_of_ble_eq_true rfl)
abbrev rmL_run : Room := { frames := 8, cells := 1, slots := 6, locals := 241 }
theorem hdL_run : yL_run.cls ≠ "java/lang/invoke/MethodHandle" ∧ yL_run.cls ≠ "java/lang/invoke/VarHandle" ∧ (parseMethodDescriptor yL_run.desc).map (fun d => d.parameters.length) = some 3 := by decide +kernel
def fL_run (N : Nat) (x0 : Nat) (x1 : Int32) (x2 : Nat) (z : St) : Option (Int32 × St) := match fX11_run N x0 x1 z with
  | some (.inl v, z1) => some ((0 : Int32), zsL z1 193 x2 (Int32.toNatClampNeg (0 : Int32)) (Int32.toInt64 v))
  | some (.inr k9, z1) => if k9 = 1 then some ((1 : Int32), z1) else some ((2 : Int32), z1)
  | none => none
set_option maxHeartbeats 4000000 in
set_option maxRecDepth 100000 in
theorem okL_run (l : Launch) (hlf : l.stackTraces = false) (D : va_G) (cy : Nat → ClassId) (B : Nat → Nat → Nat) (ids : List (Nat × Nat)) (hst : zSt B ids) (N : Nat) (x0 : Nat) (hx0 : (11, x0) ∈ ids) (x1 : Int32) (x2 : Nat) (hx2 : (193, x2) ∈ ids) {z : St} {k : Int32} {z' : St} (hW : zWf ids z) (h : fL_run N x0 x1 x2 z = some (k, z')) : zMl l yL_run (zwsH yL_run cL_run 4 (some .int) [(0, 9, 12, 19), (0, 9, 15, 13)]) (rmL_run) D cy B ids [.ref (B 11 x0), .int x1, .ref (B 193 x2)] k z z' := by
  refine zMl_of hst hW (by decide +kernel) (Nat.le_of_ble_eq_true rfl) (fun p e s m args below meth c A ls F hA hret hlocks htab hX hLK hr hl => ?_)
  unfold fL_run at h
  rcases hf : fX11_run N x0 x1 z with _ | ⟨r, z1⟩
  · rw [hf] at h; cases h
  rw [hf] at h
  refine lv_aload_n F.1 F.2.1 dL_run_0 rfl (lv_at hl 2 rfl) ?_
  refine lv_iconst (v := (0 : Int32)) F.1 F.2.1 dL_run_1 (by decide) ?_
  refine lv_aload_n F.1 F.2.1 dL_run_2 rfl (lv_at hl 0 rfl) ?_
  refine lv_iload_n F.1 F.2.1 dL_run_3 rfl (lv_at hl 1 rfl) ?_
  refine zL_spliti (zLrunV hX hA (As := [.int x1]) (rest := [.int (0 : Int32), .ref (B 193 x2)]) zq_1028 zq_1029 zs_X11_run zq_1031 zq_1 hdX11_run (by decide) (T := TX11) (N := 21) rfl (okX11_run l hlf D cy B ids hst N x0 hx0 x1 hr.2.2 hf) F hr hx0 hl.1 rfl (Nat.le_of_ble_eq_true rfl) dL_run_4 ⟨Nat.le_of_ble_eq_true rfl, Nat.le_of_ble_eq_true rfl⟩ ⟨Nat.le_of_ble_eq_true rfl, Nat.le_of_ble_eq_true rfl⟩) F hA hr (fun v H locs e0 hXv hr => ?_) (fun k9 H locs q9 ce e0 hr hq hv hcl => ?_)
  · subst e0
    replace h : some ((0 : Int32), zsL z1 193 x2 (Int32.toNatClampNeg (0 : Int32)) (Int32.toInt64 v)) = some (k, z') := h
    refine lv_i2l F.1 F.2.1 dL_run_7 rfl ?_
    refine zr_last (k := 193) (by decide) rfl (by decide) F hx2 hr dL_run_8 (by unfold vp_in; decide) (fun H locs z3 ez3 hr => ?_)
    subst ez3
    refine lv_goto (tgt := 18) F.1 F.2.1 dL_run_9 (by decide) ?_
    refine lv_iconst (v := (0 : Int32)) F.1 F.2.1 dL_run_18 (by decide) ?_
    obtain ⟨rfl, rfl⟩ := zret h
    exact zLe_i F hret hlocks dL_run_19 hr (Nat.le_of_ble_eq_true rfl) (Nat.le_of_ble_eq_true rfl)
  · subst e0
    replace h : (if k9 = 1 then some ((1 : Int32), z1) else some ((2 : Int32), z1)) = some (k, z') := h
    by_cases k1 : k9 = 1
    · replace h := zi_t k1 h
      subst k1
      refine vx_catch F.2.2.2.1 [] _ _ htab (fun z hz => absurd hz List.not_mem_nil) (by decide) (by decide) (F.2.2.2.2.1 _ zq_865) (zLK_1 hLK) hq hv hcl ?_
      refine lv_astore_n (lv' := [(3, .ref q9), (0, .ref (B 11 x0)), (1, .int x1), (2, .ref (B 193 x2))]) F.1 F.2.1 dL_run_12 rfl hl (by decide) rfl (fun ls hl => ?_)
      refine lv_iconst (v := (1 : Int32)) F.1 F.2.1 dL_run_13 (by decide) ?_
      obtain ⟨rfl, rfl⟩ := zret h
      exact zLe_i F hret hlocks dL_run_14 hr (Nat.le_of_ble_eq_true rfl) (Nat.le_of_ble_eq_true rfl)
    · replace h := zi_f k1 h
      refine vx_catch F.2.2.2.1 [_] _ _ htab (fun z hz => by
          rw [List.mem_singleton] at hz
          subst hz
          exact Or.inr ⟨by decide, _, F.2.2.2.2.1 _ zq_865, zLK_3 k1 hLK⟩) (by decide) (by decide) (F.2.2.2.2.1 _ zq_330) (zLK_2 k1 hLK) hq hv hcl ?_
      refine lv_astore_n (lv' := [(3, .ref q9), (0, .ref (B 11 x0)), (1, .int x1), (2, .ref (B 193 x2))]) F.1 F.2.1 dL_run_15 rfl hl (by decide) rfl (fun ls hl => ?_)
      refine lv_iconst (v := (2 : Int32)) F.1 F.2.1 dL_run_16 (by decide) ?_
      obtain ⟨rfl, rfl⟩ := zret h
      exact zLe_i F hret hlocks dL_run_17 hr (Nat.le_of_ble_eq_true rfl) (Nat.le_of_ble_eq_true rfl)
abbrev rmL_listen : Room := { frames := 7, cells := 1, slots := 6, locals := 125 }
theorem hdL_listen : yL_listen.cls ≠ "java/lang/invoke/MethodHandle" ∧ yL_listen.cls ≠ "java/lang/invoke/VarHandle" ∧ (parseMethodDescriptor yL_listen.desc).map (fun d => d.parameters.length) = some 5 := by decide +kernel
def fL_listen (N : Nat) (x0 : Nat) (x1 : Int32) (x2 : Int32) (x3 : Int32) (x4 : Nat) (z : St) : Option (Int32 × St) := match fX11_listen N x0 x1 x2 x3 z with
  | some (.inl v, z1) => some ((0 : Int32), zsL z1 193 x4 (Int32.toNatClampNeg (0 : Int32)) (Int32.toInt64 v))
  | some (.inr k9, z1) => if k9 = 1 then some ((1 : Int32), z1) else some ((2 : Int32), z1)
  | none => none
set_option maxHeartbeats 4000000 in
set_option maxRecDepth 100000 in
theorem okL_listen (l : Launch) (hlf : l.stackTraces = false) (D : va_G) (cy : Nat → ClassId) (B : Nat → Nat → Nat) (ids : List (Nat × Nat)) (hst : zSt B ids) (N : Nat) (x0 : Nat) (hx0 : (11, x0) ∈ ids) (x1 : Int32) (x2 : Int32) (x3 : Int32) (x4 : Nat) (hx4 : (193, x4) ∈ ids) {z : St} {k : Int32} {z' : St} (hW : zWf ids z) (h : fL_listen N x0 x1 x2 x3 x4 z = some (k, z')) : zMl l yL_listen (zwsH yL_listen cL_listen 6 (some .int) [(0, 12, 15, 19), (0, 12, 19, 13)]) (rmL_listen) D cy B ids [.ref (B 11 x0), .int x1, .int x2, .int x3, .ref (B 193 x4)] k z z' := by
  refine zMl_of hst hW (by decide +kernel) (Nat.le_of_ble_eq_true rfl) (fun p e s m args below meth c A ls F hA hret hlocks htab hX hLK hr hl => ?_)
  unfold fL_listen at h
  rcases hf : fX11_listen N x0 x1 x2 x3 z with _ | ⟨r, z1⟩
  · rw [hf] at h; cases h
  rw [hf] at h
  refine lv_aload F.1 F.2.1 dL_listen_0 (lv_at hl 4 rfl) ?_
  refine lv_iconst (v := (0 : Int32)) F.1 F.2.1 dL_listen_2 (by decide) ?_
  refine lv_aload_n F.1 F.2.1 dL_listen_3 rfl (lv_at hl 0 rfl) ?_
  refine lv_iload_n F.1 F.2.1 dL_listen_4 rfl (lv_at hl 1 rfl) ?_
  refine lv_iload_n F.1 F.2.1 dL_listen_5 rfl (lv_at hl 2 rfl) ?_
  refine lv_iload_n F.1 F.2.1 dL_listen_6 rfl (lv_at hl 3 rfl) ?_
  refine zL_spliti (zLrunV hX hA (As := [.int x1, .int x2, .int x3]) (rest := [.int (0 : Int32), .ref (B 193 x4)]) zq_1680 zq_1681 zs_X11_listen zq_1683 zq_1 hdX11_listen (by decide) (T := TX11) (N := 21) rfl (okX11_listen l hlf D cy B ids hst N x0 hx0 x1 x2 x3 hr.2.2 hf) F hr hx0 hl.1 rfl (Nat.le_of_ble_eq_true rfl) dL_listen_7 ⟨Nat.le_of_ble_eq_true rfl, Nat.le_of_ble_eq_true rfl⟩ ⟨Nat.le_of_ble_eq_true rfl, Nat.le_of_ble_eq_true rfl⟩) F hA hr (fun v H locs e0 hXv hr => ?_) (fun k9 H locs q9 ce e0 hr hq hv hcl => ?_)
  · subst e0
    replace h : some ((0 : Int32), zsL z1 193 x4 (Int32.toNatClampNeg (0 : Int32)) (Int32.toInt64 v)) = some (k, z') := h
    refine lv_i2l F.1 F.2.1 dL_listen_10 rfl ?_
    refine zr_last (k := 193) (by decide) rfl (by decide) F hx4 hr dL_listen_11 (by unfold vp_in; decide) (fun H locs z3 ez3 hr => ?_)
    subst ez3
    refine lv_goto (tgt := 23) F.1 F.2.1 dL_listen_12 (by decide) ?_
    refine lv_iconst (v := (0 : Int32)) F.1 F.2.1 dL_listen_23 (by decide) ?_
    obtain ⟨rfl, rfl⟩ := zret h
    exact zLe_i F hret hlocks dL_listen_24 hr (Nat.le_of_ble_eq_true rfl) (Nat.le_of_ble_eq_true rfl)
  · subst e0
    replace h : (if k9 = 1 then some ((1 : Int32), z1) else some ((2 : Int32), z1)) = some (k, z') := h
    by_cases k1 : k9 = 1
    · replace h := zi_t k1 h
      subst k1
      refine vx_catch F.2.2.2.1 [] _ _ htab (fun z hz => absurd hz List.not_mem_nil) (by decide) (by decide) (F.2.2.2.2.1 _ zq_865) (zLK_1 hLK) hq hv hcl ?_
      refine lv_astore (lv' := [(5, .ref q9), (0, .ref (B 11 x0)), (1, .int x1), (2, .int x2), (3, .int x3), (4, .ref (B 193 x4))]) F.1 F.2.1 dL_listen_15 hl (by decide) rfl (fun ls hl => ?_)
      refine lv_iconst (v := (1 : Int32)) F.1 F.2.1 dL_listen_17 (by decide) ?_
      obtain ⟨rfl, rfl⟩ := zret h
      exact zLe_i F hret hlocks dL_listen_18 hr (Nat.le_of_ble_eq_true rfl) (Nat.le_of_ble_eq_true rfl)
    · replace h := zi_f k1 h
      refine vx_catch F.2.2.2.1 [_] _ _ htab (fun z hz => by
          rw [List.mem_singleton] at hz
          subst hz
          exact Or.inr ⟨by decide, _, F.2.2.2.2.1 _ zq_865, zLK_3 k1 hLK⟩) (by decide) (by decide) (F.2.2.2.2.1 _ zq_330) (zLK_2 k1 hLK) hq hv hcl ?_
      refine lv_astore (lv' := [(5, .ref q9), (0, .ref (B 11 x0)), (1, .int x1), (2, .int x2), (3, .int x3), (4, .ref (B 193 x4))]) F.1 F.2.1 dL_listen_19 hl (by decide) rfl (fun ls hl => ?_)
      refine lv_iconst (v := (2 : Int32)) F.1 F.2.1 dL_listen_21 (by decide) ?_
      obtain ⟨rfl, rfl⟩ := zret h
      exact zLe_i F hret hlocks dL_listen_22 hr (Nat.le_of_ble_eq_true rfl) (Nat.le_of_ble_eq_true rfl)
abbrev rmL_open : Room := { frames := 7, cells := 1, slots := 6, locals := 127 }
theorem hdL_open : yL_open.cls ≠ "java/lang/invoke/MethodHandle" ∧ yL_open.cls ≠ "java/lang/invoke/VarHandle" ∧ (parseMethodDescriptor yL_open.desc).map (fun d => d.parameters.length) = some 5 := by decide +kernel
def fL_open (N : Nat) (x0 : Nat) (x1 : Int32) (x2 : Int32) (x3 : Int32) (x4 : Nat) (z : St) : Option (Int32 × St) := match fX11_open N x0 x1 x2 x3 z with
  | some (.inl v, z1) => some ((0 : Int32), zsL z1 193 x4 (Int32.toNatClampNeg (0 : Int32)) (Int32.toInt64 v))
  | some (.inr k9, z1) => if k9 = 1 then some ((1 : Int32), z1) else some ((2 : Int32), z1)
  | none => none
set_option maxHeartbeats 4000000 in
set_option maxRecDepth 100000 in
theorem okL_open (l : Launch) (hlf : l.stackTraces = false) (D : va_G) (cy : Nat → ClassId) (B : Nat → Nat → Nat) (ids : List (Nat × Nat)) (hst : zSt B ids) (N : Nat) (x0 : Nat) (hx0 : (11, x0) ∈ ids) (x1 : Int32) (x2 : Int32) (x3 : Int32) (x4 : Nat) (hx4 : (193, x4) ∈ ids) {z : St} {k : Int32} {z' : St} (hW : zWf ids z) (h : fL_open N x0 x1 x2 x3 x4 z = some (k, z')) : zMl l yL_open (zwsH yL_open cL_open 6 (some .int) [(0, 12, 15, 19), (0, 12, 19, 13)]) (rmL_open) D cy B ids [.ref (B 11 x0), .int x1, .int x2, .int x3, .ref (B 193 x4)] k z z' := by
  refine zMl_of hst hW (by decide +kernel) (Nat.le_of_ble_eq_true rfl) (fun p e s m args below meth c A ls F hA hret hlocks htab hX hLK hr hl => ?_)
  unfold fL_open at h
  rcases hf : fX11_open N x0 x1 x2 x3 z with _ | ⟨r, z1⟩
  · rw [hf] at h; cases h
  rw [hf] at h
  refine lv_aload F.1 F.2.1 dL_open_0 (lv_at hl 4 rfl) ?_
  refine lv_iconst (v := (0 : Int32)) F.1 F.2.1 dL_open_2 (by decide) ?_
  refine lv_aload_n F.1 F.2.1 dL_open_3 rfl (lv_at hl 0 rfl) ?_
  refine lv_iload_n F.1 F.2.1 dL_open_4 rfl (lv_at hl 1 rfl) ?_
  refine lv_iload_n F.1 F.2.1 dL_open_5 rfl (lv_at hl 2 rfl) ?_
  refine lv_iload_n F.1 F.2.1 dL_open_6 rfl (lv_at hl 3 rfl) ?_
  refine zL_spliti (zLrunV hX hA (As := [.int x1, .int x2, .int x3]) (rest := [.int (0 : Int32), .ref (B 193 x4)]) zq_1702 zq_1703 zs_X11_open zq_1705 zq_1 hdX11_open (by decide) (T := TX11) (N := 21) rfl (okX11_open l hlf D cy B ids hst N x0 hx0 x1 x2 x3 hr.2.2 hf) F hr hx0 hl.1 rfl (Nat.le_of_ble_eq_true rfl) dL_open_7 ⟨Nat.le_of_ble_eq_true rfl, Nat.le_of_ble_eq_true rfl⟩ ⟨Nat.le_of_ble_eq_true rfl, Nat.le_of_ble_eq_true rfl⟩) F hA hr (fun v H locs e0 hXv hr => ?_) (fun k9 H locs q9 ce e0 hr hq hv hcl => ?_)
  · subst e0
    replace h : some ((0 : Int32), zsL z1 193 x4 (Int32.toNatClampNeg (0 : Int32)) (Int32.toInt64 v)) = some (k, z') := h
    refine lv_i2l F.1 F.2.1 dL_open_10 rfl ?_
    refine zr_last (k := 193) (by decide) rfl (by decide) F hx4 hr dL_open_11 (by unfold vp_in; decide) (fun H locs z3 ez3 hr => ?_)
    subst ez3
    refine lv_goto (tgt := 23) F.1 F.2.1 dL_open_12 (by decide) ?_
    refine lv_iconst (v := (0 : Int32)) F.1 F.2.1 dL_open_23 (by decide) ?_
    obtain ⟨rfl, rfl⟩ := zret h
    exact zLe_i F hret hlocks dL_open_24 hr (Nat.le_of_ble_eq_true rfl) (Nat.le_of_ble_eq_true rfl)
  · subst e0
    replace h : (if k9 = 1 then some ((1 : Int32), z1) else some ((2 : Int32), z1)) = some (k, z') := h
    by_cases k1 : k9 = 1
    · replace h := zi_t k1 h
      subst k1
      refine vx_catch F.2.2.2.1 [] _ _ htab (fun z hz => absurd hz List.not_mem_nil) (by decide) (by decide) (F.2.2.2.2.1 _ zq_865) (zLK_1 hLK) hq hv hcl ?_
      refine lv_astore (lv' := [(5, .ref q9), (0, .ref (B 11 x0)), (1, .int x1), (2, .int x2), (3, .int x3), (4, .ref (B 193 x4))]) F.1 F.2.1 dL_open_15 hl (by decide) rfl (fun ls hl => ?_)
      refine lv_iconst (v := (1 : Int32)) F.1 F.2.1 dL_open_17 (by decide) ?_
      obtain ⟨rfl, rfl⟩ := zret h
      exact zLe_i F hret hlocks dL_open_18 hr (Nat.le_of_ble_eq_true rfl) (Nat.le_of_ble_eq_true rfl)
    · replace h := zi_f k1 h
      refine vx_catch F.2.2.2.1 [_] _ _ htab (fun z hz => by
          rw [List.mem_singleton] at hz
          subst hz
          exact Or.inr ⟨by decide, _, F.2.2.2.2.1 _ zq_865, zLK_3 k1 hLK⟩) (by decide) (by decide) (F.2.2.2.2.1 _ zq_330) (zLK_2 k1 hLK) hq hv hcl ?_
      refine lv_astore (lv' := [(5, .ref q9), (0, .ref (B 11 x0)), (1, .int x1), (2, .int x2), (3, .int x3), (4, .ref (B 193 x4))]) F.1 F.2.1 dL_open_19 hl (by decide) rfl (fun ls hl => ?_)
      refine lv_iconst (v := (2 : Int32)) F.1 F.2.1 dL_open_21 (by decide) ?_
      obtain ⟨rfl, rfl⟩ := zret h
      exact zLe_i F hret hlocks dL_open_22 hr (Nat.le_of_ble_eq_true rfl) (Nat.le_of_ble_eq_true rfl)
abbrev rmL_accept : Room := { frames := 7, cells := 1, slots := 6, locals := 126 }
theorem hdL_accept : yL_accept.cls ≠ "java/lang/invoke/MethodHandle" ∧ yL_accept.cls ≠ "java/lang/invoke/VarHandle" ∧ (parseMethodDescriptor yL_accept.desc).map (fun d => d.parameters.length) = some 4 := by decide +kernel
def fL_accept (N : Nat) (x0 : Nat) (x1 : Int32) (x2 : Int32) (x3 : Nat) (z : St) : Option (Int32 × St) := match fX11_accept N x0 x1 x2 z with
  | some (.inl v, z1) => some ((0 : Int32), zsL z1 193 x3 (Int32.toNatClampNeg (0 : Int32)) (Int32.toInt64 v))
  | some (.inr k9, z1) => if k9 = 1 then some ((1 : Int32), z1) else some ((2 : Int32), z1)
  | none => none
set_option maxHeartbeats 4000000 in
set_option maxRecDepth 100000 in
theorem okL_accept (l : Launch) (hlf : l.stackTraces = false) (D : va_G) (cy : Nat → ClassId) (B : Nat → Nat → Nat) (ids : List (Nat × Nat)) (hst : zSt B ids) (N : Nat) (x0 : Nat) (hx0 : (11, x0) ∈ ids) (x1 : Int32) (x2 : Int32) (x3 : Nat) (hx3 : (193, x3) ∈ ids) {z : St} {k : Int32} {z' : St} (hW : zWf ids z) (h : fL_accept N x0 x1 x2 x3 z = some (k, z')) : zMl l yL_accept (zwsH yL_accept cL_accept 5 (some .int) [(0, 10, 13, 19), (0, 10, 17, 13)]) (rmL_accept) D cy B ids [.ref (B 11 x0), .int x1, .int x2, .ref (B 193 x3)] k z z' := by
  refine zMl_of hst hW (by decide +kernel) (Nat.le_of_ble_eq_true rfl) (fun p e s m args below meth c A ls F hA hret hlocks htab hX hLK hr hl => ?_)
  unfold fL_accept at h
  rcases hf : fX11_accept N x0 x1 x2 z with _ | ⟨r, z1⟩
  · rw [hf] at h; cases h
  rw [hf] at h
  refine lv_aload_n F.1 F.2.1 dL_accept_0 rfl (lv_at hl 3 rfl) ?_
  refine lv_iconst (v := (0 : Int32)) F.1 F.2.1 dL_accept_1 (by decide) ?_
  refine lv_aload_n F.1 F.2.1 dL_accept_2 rfl (lv_at hl 0 rfl) ?_
  refine lv_iload_n F.1 F.2.1 dL_accept_3 rfl (lv_at hl 1 rfl) ?_
  refine lv_iload_n F.1 F.2.1 dL_accept_4 rfl (lv_at hl 2 rfl) ?_
  refine zL_spliti (zLrunV hX hA (As := [.int x1, .int x2]) (rest := [.int (0 : Int32), .ref (B 193 x3)]) zq_1717 zq_1718 zs_X11_accept zq_1720 zq_1 hdX11_accept (by decide) (T := TX11) (N := 21) rfl (okX11_accept l hlf D cy B ids hst N x0 hx0 x1 x2 hr.2.2 hf) F hr hx0 hl.1 rfl (Nat.le_of_ble_eq_true rfl) dL_accept_5 ⟨Nat.le_of_ble_eq_true rfl, Nat.le_of_ble_eq_true rfl⟩ ⟨Nat.le_of_ble_eq_true rfl, Nat.le_of_ble_eq_true rfl⟩) F hA hr (fun v H locs e0 hXv hr => ?_) (fun k9 H locs q9 ce e0 hr hq hv hcl => ?_)
  · subst e0
    replace h : some ((0 : Int32), zsL z1 193 x3 (Int32.toNatClampNeg (0 : Int32)) (Int32.toInt64 v)) = some (k, z') := h
    refine lv_i2l F.1 F.2.1 dL_accept_8 rfl ?_
    refine zr_last (k := 193) (by decide) rfl (by decide) F hx3 hr dL_accept_9 (by unfold vp_in; decide) (fun H locs z3 ez3 hr => ?_)
    subst ez3
    refine lv_goto (tgt := 21) F.1 F.2.1 dL_accept_10 (by decide) ?_
    refine lv_iconst (v := (0 : Int32)) F.1 F.2.1 dL_accept_21 (by decide) ?_
    obtain ⟨rfl, rfl⟩ := zret h
    exact zLe_i F hret hlocks dL_accept_22 hr (Nat.le_of_ble_eq_true rfl) (Nat.le_of_ble_eq_true rfl)
  · subst e0
    replace h : (if k9 = 1 then some ((1 : Int32), z1) else some ((2 : Int32), z1)) = some (k, z') := h
    by_cases k1 : k9 = 1
    · replace h := zi_t k1 h
      subst k1
      refine vx_catch F.2.2.2.1 [] _ _ htab (fun z hz => absurd hz List.not_mem_nil) (by decide) (by decide) (F.2.2.2.2.1 _ zq_865) (zLK_1 hLK) hq hv hcl ?_
      refine lv_astore (lv' := [(4, .ref q9), (0, .ref (B 11 x0)), (1, .int x1), (2, .int x2), (3, .ref (B 193 x3))]) F.1 F.2.1 dL_accept_13 hl (by decide) rfl (fun ls hl => ?_)
      refine lv_iconst (v := (1 : Int32)) F.1 F.2.1 dL_accept_15 (by decide) ?_
      obtain ⟨rfl, rfl⟩ := zret h
      exact zLe_i F hret hlocks dL_accept_16 hr (Nat.le_of_ble_eq_true rfl) (Nat.le_of_ble_eq_true rfl)
    · replace h := zi_f k1 h
      refine vx_catch F.2.2.2.1 [_] _ _ htab (fun z hz => by
          rw [List.mem_singleton] at hz
          subst hz
          exact Or.inr ⟨by decide, _, F.2.2.2.2.1 _ zq_865, zLK_3 k1 hLK⟩) (by decide) (by decide) (F.2.2.2.2.1 _ zq_330) (zLK_2 k1 hLK) hq hv hcl ?_
      refine lv_astore (lv' := [(4, .ref q9), (0, .ref (B 11 x0)), (1, .int x1), (2, .int x2), (3, .ref (B 193 x3))]) F.1 F.2.1 dL_accept_17 hl (by decide) rfl (fun ls hl => ?_)
      refine lv_iconst (v := (2 : Int32)) F.1 F.2.1 dL_accept_19 (by decide) ?_
      obtain ⟨rfl, rfl⟩ := zret h
      exact zLe_i F hret hlocks dL_accept_20 hr (Nat.le_of_ble_eq_true rfl) (Nat.le_of_ble_eq_true rfl)
abbrev rmL_write : Room := { frames := 7, cells := 1, slots := 6, locals := 128 }
theorem hdL_write : yL_write.cls ≠ "java/lang/invoke/MethodHandle" ∧ yL_write.cls ≠ "java/lang/invoke/VarHandle" ∧ (parseMethodDescriptor yL_write.desc).map (fun d => d.parameters.length) = some 6 := by decide +kernel
def fL_write (N : Nat) (x0 : Nat) (x1 : Int32) (x2 : Int32) (x3 : Int64) (x5 : Int32) (x6 : Nat) (z : St) : Option (Int32 × St) := match fX11_write N x0 x1 x2 x3 x5 z with
  | some (.inl v, z1) => some ((0 : Int32), zsL z1 193 x6 (Int32.toNatClampNeg (0 : Int32)) (Int32.toInt64 v))
  | some (.inr k9, z1) => if k9 = 1 then some ((1 : Int32), z1) else some ((2 : Int32), z1)
  | none => none
set_option maxHeartbeats 4000000 in
set_option maxRecDepth 100000 in
theorem okL_write (l : Launch) (hlf : l.stackTraces = false) (D : va_G) (cy : Nat → ClassId) (B : Nat → Nat → Nat) (ids : List (Nat × Nat)) (hst : zSt B ids) (N : Nat) (x0 : Nat) (hx0 : (11, x0) ∈ ids) (x1 : Int32) (x2 : Int32) (x3 : Int64) (x5 : Int32) (x6 : Nat) (hx6 : (193, x6) ∈ ids) {z : St} {k : Int32} {z' : St} (hW : zWf ids z) (h : fL_write N x0 x1 x2 x3 x5 x6 z = some (k, z')) : zMl l yL_write (zwsH yL_write cL_write 8 (some .int) [(0, 14, 17, 19), (0, 14, 21, 13)]) (rmL_write) D cy B ids [.ref (B 11 x0), .int x1, .int x2, .long x3, .int x5, .ref (B 193 x6)] k z z' := by
  refine zMl_of hst hW (by decide +kernel) (Nat.le_of_ble_eq_true rfl) (fun p e s m args below meth c A ls F hA hret hlocks htab hX hLK hr hl => ?_)
  unfold fL_write at h
  rcases hf : fX11_write N x0 x1 x2 x3 x5 z with _ | ⟨r, z1⟩
  · rw [hf] at h; cases h
  rw [hf] at h
  refine lv_aload F.1 F.2.1 dL_write_0 (lv_at hl 5 rfl) ?_
  refine lv_iconst (v := (0 : Int32)) F.1 F.2.1 dL_write_2 (by decide) ?_
  refine lv_aload_n F.1 F.2.1 dL_write_3 rfl (lv_at hl 0 rfl) ?_
  refine lv_iload_n F.1 F.2.1 dL_write_4 rfl (lv_at hl 1 rfl) ?_
  refine lv_iload_n F.1 F.2.1 dL_write_5 rfl (lv_at hl 2 rfl) ?_
  refine lv_lload_n F.1 F.2.1 dL_write_6 rfl (lv_at hl 3 rfl) ?_
  refine lv_iload F.1 F.2.1 dL_write_7 (lv_at hl 4 rfl) ?_
  refine zL_spliti (zLrunV hX hA (As := [.int x1, .int x2, .long x3, .int x5]) (rest := [.int (0 : Int32), .ref (B 193 x6)]) zq_1730 zq_1731 zs_X11_write zq_1733 zq_1 hdX11_write (by decide) (T := TX11) (N := 21) rfl (okX11_write l hlf D cy B ids hst N x0 hx0 x1 x2 x3 x5 hr.2.2 hf) F hr hx0 hl.1 rfl (Nat.le_of_ble_eq_true rfl) dL_write_9 ⟨Nat.le_of_ble_eq_true rfl, Nat.le_of_ble_eq_true rfl⟩ ⟨Nat.le_of_ble_eq_true rfl, Nat.le_of_ble_eq_true rfl⟩) F hA hr (fun v H locs e0 hXv hr => ?_) (fun k9 H locs q9 ce e0 hr hq hv hcl => ?_)
  · subst e0
    replace h : some ((0 : Int32), zsL z1 193 x6 (Int32.toNatClampNeg (0 : Int32)) (Int32.toInt64 v)) = some (k, z') := h
    refine lv_i2l F.1 F.2.1 dL_write_12 rfl ?_
    refine zr_last (k := 193) (by decide) rfl (by decide) F hx6 hr dL_write_13 (by unfold vp_in; decide) (fun H locs z3 ez3 hr => ?_)
    subst ez3
    refine lv_goto (tgt := 25) F.1 F.2.1 dL_write_14 (by decide) ?_
    refine lv_iconst (v := (0 : Int32)) F.1 F.2.1 dL_write_25 (by decide) ?_
    obtain ⟨rfl, rfl⟩ := zret h
    exact zLe_i F hret hlocks dL_write_26 hr (Nat.le_of_ble_eq_true rfl) (Nat.le_of_ble_eq_true rfl)
  · subst e0
    replace h : (if k9 = 1 then some ((1 : Int32), z1) else some ((2 : Int32), z1)) = some (k, z') := h
    by_cases k1 : k9 = 1
    · replace h := zi_t k1 h
      subst k1
      refine vx_catch F.2.2.2.1 [] _ _ htab (fun z hz => absurd hz List.not_mem_nil) (by decide) (by decide) (F.2.2.2.2.1 _ zq_865) (zLK_1 hLK) hq hv hcl ?_
      refine lv_astore (lv' := [(7, .ref q9), (0, .ref (B 11 x0)), (1, .int x1), (2, .int x2), (3, .long x3), (5, .int x5), (6, .ref (B 193 x6))]) F.1 F.2.1 dL_write_17 hl (by decide) rfl (fun ls hl => ?_)
      refine lv_iconst (v := (1 : Int32)) F.1 F.2.1 dL_write_19 (by decide) ?_
      obtain ⟨rfl, rfl⟩ := zret h
      exact zLe_i F hret hlocks dL_write_20 hr (Nat.le_of_ble_eq_true rfl) (Nat.le_of_ble_eq_true rfl)
    · replace h := zi_f k1 h
      refine vx_catch F.2.2.2.1 [_] _ _ htab (fun z hz => by
          rw [List.mem_singleton] at hz
          subst hz
          exact Or.inr ⟨by decide, _, F.2.2.2.2.1 _ zq_865, zLK_3 k1 hLK⟩) (by decide) (by decide) (F.2.2.2.2.1 _ zq_330) (zLK_2 k1 hLK) hq hv hcl ?_
      refine lv_astore (lv' := [(7, .ref q9), (0, .ref (B 11 x0)), (1, .int x1), (2, .int x2), (3, .long x3), (5, .int x5), (6, .ref (B 193 x6))]) F.1 F.2.1 dL_write_21 hl (by decide) rfl (fun ls hl => ?_)
      refine lv_iconst (v := (2 : Int32)) F.1 F.2.1 dL_write_23 (by decide) ?_
      obtain ⟨rfl, rfl⟩ := zret h
      exact zLe_i F hret hlocks dL_write_24 hr (Nat.le_of_ble_eq_true rfl) (Nat.le_of_ble_eq_true rfl)
abbrev rmL_fill : Room := { frames := 7, cells := 1, slots := 6, locals := 128 }
theorem hdL_fill : yL_fill.cls ≠ "java/lang/invoke/MethodHandle" ∧ yL_fill.cls ≠ "java/lang/invoke/VarHandle" ∧ (parseMethodDescriptor yL_fill.desc).map (fun d => d.parameters.length) = some 7 := by decide +kernel
def fL_fill (N : Nat) (x0 : Nat) (x1 : Int32) (x2 : Int32) (x3 : Int32) (x4 : Int32) (x5 : Int32) (x6 : Nat) (z : St) : Option (Int32 × St) := match fX11_fill N x0 x1 x2 x3 x4 x5 z with
  | some (.inl v, z1) => some ((0 : Int32), zsL z1 193 x6 (Int32.toNatClampNeg (0 : Int32)) (Int32.toInt64 v))
  | some (.inr k9, z1) => if k9 = 1 then some ((1 : Int32), z1) else some ((2 : Int32), z1)
  | none => none
set_option maxHeartbeats 4000000 in
set_option maxRecDepth 100000 in
theorem okL_fill (l : Launch) (hlf : l.stackTraces = false) (D : va_G) (cy : Nat → ClassId) (B : Nat → Nat → Nat) (ids : List (Nat × Nat)) (hst : zSt B ids) (N : Nat) (x0 : Nat) (hx0 : (11, x0) ∈ ids) (x1 : Int32) (x2 : Int32) (x3 : Int32) (x4 : Int32) (x5 : Int32) (x6 : Nat) (hx6 : (193, x6) ∈ ids) {z : St} {k : Int32} {z' : St} (hW : zWf ids z) (h : fL_fill N x0 x1 x2 x3 x4 x5 x6 z = some (k, z')) : zMl l yL_fill (zwsH yL_fill cL_fill 8 (some .int) [(0, 16, 19, 19), (0, 16, 23, 13)]) (rmL_fill) D cy B ids [.ref (B 11 x0), .int x1, .int x2, .int x3, .int x4, .int x5, .ref (B 193 x6)] k z z' := by
  refine zMl_of hst hW (by decide +kernel) (Nat.le_of_ble_eq_true rfl) (fun p e s m args below meth c A ls F hA hret hlocks htab hX hLK hr hl => ?_)
  unfold fL_fill at h
  rcases hf : fX11_fill N x0 x1 x2 x3 x4 x5 z with _ | ⟨r, z1⟩
  · rw [hf] at h; cases h
  rw [hf] at h
  refine lv_aload F.1 F.2.1 dL_fill_0 (lv_at hl 6 rfl) ?_
  refine lv_iconst (v := (0 : Int32)) F.1 F.2.1 dL_fill_2 (by decide) ?_
  refine lv_aload_n F.1 F.2.1 dL_fill_3 rfl (lv_at hl 0 rfl) ?_
  refine lv_iload_n F.1 F.2.1 dL_fill_4 rfl (lv_at hl 1 rfl) ?_
  refine lv_iload_n F.1 F.2.1 dL_fill_5 rfl (lv_at hl 2 rfl) ?_
  refine lv_iload_n F.1 F.2.1 dL_fill_6 rfl (lv_at hl 3 rfl) ?_
  refine lv_iload F.1 F.2.1 dL_fill_7 (lv_at hl 4 rfl) ?_
  refine lv_iload F.1 F.2.1 dL_fill_9 (lv_at hl 5 rfl) ?_
  refine zL_spliti (zLrunV hX hA (As := [.int x1, .int x2, .int x3, .int x4, .int x5]) (rest := [.int (0 : Int32), .ref (B 193 x6)]) zq_1756 zq_1757 zs_X11_fill zq_1759 zq_1 hdX11_fill (by decide) (T := TX11) (N := 21) rfl (okX11_fill l hlf D cy B ids hst N x0 hx0 x1 x2 x3 x4 x5 hr.2.2 hf) F hr hx0 hl.1 rfl (Nat.le_of_ble_eq_true rfl) dL_fill_11 ⟨Nat.le_of_ble_eq_true rfl, Nat.le_of_ble_eq_true rfl⟩ ⟨Nat.le_of_ble_eq_true rfl, Nat.le_of_ble_eq_true rfl⟩) F hA hr (fun v H locs e0 hXv hr => ?_) (fun k9 H locs q9 ce e0 hr hq hv hcl => ?_)
  · subst e0
    replace h : some ((0 : Int32), zsL z1 193 x6 (Int32.toNatClampNeg (0 : Int32)) (Int32.toInt64 v)) = some (k, z') := h
    refine lv_i2l F.1 F.2.1 dL_fill_14 rfl ?_
    refine zr_last (k := 193) (by decide) rfl (by decide) F hx6 hr dL_fill_15 (by unfold vp_in; decide) (fun H locs z3 ez3 hr => ?_)
    subst ez3
    refine lv_goto (tgt := 27) F.1 F.2.1 dL_fill_16 (by decide) ?_
    refine lv_iconst (v := (0 : Int32)) F.1 F.2.1 dL_fill_27 (by decide) ?_
    obtain ⟨rfl, rfl⟩ := zret h
    exact zLe_i F hret hlocks dL_fill_28 hr (Nat.le_of_ble_eq_true rfl) (Nat.le_of_ble_eq_true rfl)
  · subst e0
    replace h : (if k9 = 1 then some ((1 : Int32), z1) else some ((2 : Int32), z1)) = some (k, z') := h
    by_cases k1 : k9 = 1
    · replace h := zi_t k1 h
      subst k1
      refine vx_catch F.2.2.2.1 [] _ _ htab (fun z hz => absurd hz List.not_mem_nil) (by decide) (by decide) (F.2.2.2.2.1 _ zq_865) (zLK_1 hLK) hq hv hcl ?_
      refine lv_astore (lv' := [(7, .ref q9), (0, .ref (B 11 x0)), (1, .int x1), (2, .int x2), (3, .int x3), (4, .int x4), (5, .int x5), (6, .ref (B 193 x6))]) F.1 F.2.1 dL_fill_19 hl (by decide) rfl (fun ls hl => ?_)
      refine lv_iconst (v := (1 : Int32)) F.1 F.2.1 dL_fill_21 (by decide) ?_
      obtain ⟨rfl, rfl⟩ := zret h
      exact zLe_i F hret hlocks dL_fill_22 hr (Nat.le_of_ble_eq_true rfl) (Nat.le_of_ble_eq_true rfl)
    · replace h := zi_f k1 h
      refine vx_catch F.2.2.2.1 [_] _ _ htab (fun z hz => by
          rw [List.mem_singleton] at hz
          subst hz
          exact Or.inr ⟨by decide, _, F.2.2.2.2.1 _ zq_865, zLK_3 k1 hLK⟩) (by decide) (by decide) (F.2.2.2.2.1 _ zq_330) (zLK_2 k1 hLK) hq hv hcl ?_
      refine lv_astore (lv' := [(7, .ref q9), (0, .ref (B 11 x0)), (1, .int x1), (2, .int x2), (3, .int x3), (4, .int x4), (5, .int x5), (6, .ref (B 193 x6))]) F.1 F.2.1 dL_fill_23 hl (by decide) rfl (fun ls hl => ?_)
      refine lv_iconst (v := (2 : Int32)) F.1 F.2.1 dL_fill_25 (by decide) ?_
      obtain ⟨rfl, rfl⟩ := zret h
      exact zLe_i F hret hlocks dL_fill_26 hr (Nat.le_of_ble_eq_true rfl) (Nat.le_of_ble_eq_true rfl)
abbrev rmL_read : Room := { frames := 8, cells := 2, slots := 12, locals := 147 }
theorem hdL_read : yL_read.cls ≠ "java/lang/invoke/MethodHandle" ∧ yL_read.cls ≠ "java/lang/invoke/VarHandle" ∧ (parseMethodDescriptor yL_read.desc).map (fun d => d.parameters.length) = some 4 := by decide +kernel
def fL_read (N : Nat) (x0 : Nat) (x1 : Int32) (x2 : Int32) (x3 : Nat) (z : St) : Option (Int32 × St) := match fX11_read N x0 x1 x2 z with
  | some (.inl v, z1) => some ((0 : Int32), zsL z1 193 x3 (Int32.toNatClampNeg (0 : Int32)) (Int32.toInt64 v))
  | some (.inr k9, z1) => if k9 = 1 then some ((1 : Int32), z1) else some ((2 : Int32), z1)
  | none => none
set_option maxHeartbeats 4000000 in
set_option maxRecDepth 100000 in
theorem okL_read (l : Launch) (hlf : l.stackTraces = false) (D : va_G) (cy : Nat → ClassId) (B : Nat → Nat → Nat) (ids : List (Nat × Nat)) (hst : zSt B ids) (N : Nat) (x0 : Nat) (hx0 : (11, x0) ∈ ids) (x1 : Int32) (x2 : Int32) (x3 : Nat) (hx3 : (193, x3) ∈ ids) {z : St} {k : Int32} {z' : St} (hW : zWf ids z) (h : fL_read N x0 x1 x2 x3 z = some (k, z')) : zMl l yL_read (zwsH yL_read cL_read 5 (some .int) [(0, 10, 13, 19), (0, 10, 17, 13)]) (rmL_read) D cy B ids [.ref (B 11 x0), .int x1, .int x2, .ref (B 193 x3)] k z z' := by
  refine zMl_of hst hW (by decide +kernel) (Nat.le_of_ble_eq_true rfl) (fun p e s m args below meth c A ls F hA hret hlocks htab hX hLK hr hl => ?_)
  unfold fL_read at h
  rcases hf : fX11_read N x0 x1 x2 z with _ | ⟨r, z1⟩
  · rw [hf] at h; cases h
  rw [hf] at h
  refine lv_aload_n F.1 F.2.1 dL_read_0 rfl (lv_at hl 3 rfl) ?_
  refine lv_iconst (v := (0 : Int32)) F.1 F.2.1 dL_read_1 (by decide) ?_
  refine lv_aload_n F.1 F.2.1 dL_read_2 rfl (lv_at hl 0 rfl) ?_
  refine lv_iload_n F.1 F.2.1 dL_read_3 rfl (lv_at hl 1 rfl) ?_
  refine lv_iload_n F.1 F.2.1 dL_read_4 rfl (lv_at hl 2 rfl) ?_
  refine zL_spliti (zLrunV hX hA (As := [.int x1, .int x2]) (rest := [.int (0 : Int32), .ref (B 193 x3)]) zq_1764 zq_1765 zs_X11_read zq_1767 zq_1 hdX11_read (by decide) (T := TX11) (N := 21) rfl (okX11_read l hlf D cy B ids hst N x0 hx0 x1 x2 hr.2.2 hf) F hr hx0 hl.1 rfl (Nat.le_of_ble_eq_true rfl) dL_read_5 ⟨Nat.le_of_ble_eq_true rfl, Nat.le_of_ble_eq_true rfl⟩ ⟨Nat.le_of_ble_eq_true rfl, Nat.le_of_ble_eq_true rfl⟩) F hA hr (fun v H locs e0 hXv hr => ?_) (fun k9 H locs q9 ce e0 hr hq hv hcl => ?_)
  · subst e0
    replace h : some ((0 : Int32), zsL z1 193 x3 (Int32.toNatClampNeg (0 : Int32)) (Int32.toInt64 v)) = some (k, z') := h
    refine lv_i2l F.1 F.2.1 dL_read_8 rfl ?_
    refine zr_last (k := 193) (by decide) rfl (by decide) F hx3 hr dL_read_9 (by unfold vp_in; decide) (fun H locs z3 ez3 hr => ?_)
    subst ez3
    refine lv_goto (tgt := 21) F.1 F.2.1 dL_read_10 (by decide) ?_
    refine lv_iconst (v := (0 : Int32)) F.1 F.2.1 dL_read_21 (by decide) ?_
    obtain ⟨rfl, rfl⟩ := zret h
    exact zLe_i F hret hlocks dL_read_22 hr (Nat.le_of_ble_eq_true rfl) (Nat.le_of_ble_eq_true rfl)
  · subst e0
    replace h : (if k9 = 1 then some ((1 : Int32), z1) else some ((2 : Int32), z1)) = some (k, z') := h
    by_cases k1 : k9 = 1
    · replace h := zi_t k1 h
      subst k1
      refine vx_catch F.2.2.2.1 [] _ _ htab (fun z hz => absurd hz List.not_mem_nil) (by decide) (by decide) (F.2.2.2.2.1 _ zq_865) (zLK_1 hLK) hq hv hcl ?_
      refine lv_astore (lv' := [(4, .ref q9), (0, .ref (B 11 x0)), (1, .int x1), (2, .int x2), (3, .ref (B 193 x3))]) F.1 F.2.1 dL_read_13 hl (by decide) rfl (fun ls hl => ?_)
      refine lv_iconst (v := (1 : Int32)) F.1 F.2.1 dL_read_15 (by decide) ?_
      obtain ⟨rfl, rfl⟩ := zret h
      exact zLe_i F hret hlocks dL_read_16 hr (Nat.le_of_ble_eq_true rfl) (Nat.le_of_ble_eq_true rfl)
    · replace h := zi_f k1 h
      refine vx_catch F.2.2.2.1 [_] _ _ htab (fun z hz => by
          rw [List.mem_singleton] at hz
          subst hz
          exact Or.inr ⟨by decide, _, F.2.2.2.2.1 _ zq_865, zLK_3 k1 hLK⟩) (by decide) (by decide) (F.2.2.2.2.1 _ zq_330) (zLK_2 k1 hLK) hq hv hcl ?_
      refine lv_astore (lv' := [(4, .ref q9), (0, .ref (B 11 x0)), (1, .int x1), (2, .int x2), (3, .ref (B 193 x3))]) F.1 F.2.1 dL_read_17 hl (by decide) rfl (fun ls hl => ?_)
      refine lv_iconst (v := (2 : Int32)) F.1 F.2.1 dL_read_19 (by decide) ?_
      obtain ⟨rfl, rfl⟩ := zret h
      exact zLe_i F hret hlocks dL_read_20 hr (Nat.le_of_ble_eq_true rfl) (Nat.le_of_ble_eq_true rfl)
abbrev rmL_readAll : Room := { frames := 8, cells := 2, slots := 12, locals := 150 }
theorem hdL_readAll : yL_readAll.cls ≠ "java/lang/invoke/MethodHandle" ∧ yL_readAll.cls ≠ "java/lang/invoke/VarHandle" ∧ (parseMethodDescriptor yL_readAll.desc).map (fun d => d.parameters.length) = some 5 := by decide +kernel
def fL_readAll (N : Nat) (x0 : Nat) (x1 : Int32) (x2 : Int32) (x3 : Int32) (x4 : Nat) (z : St) : Option (Int32 × St) := match fX11_readAll N x0 x1 x2 x3 z with
  | some (.inl v, z1) => some ((0 : Int32), zsL z1 193 x4 (Int32.toNatClampNeg (0 : Int32)) (Int32.toInt64 v))
  | some (.inr k9, z1) => if k9 = 1 then some ((1 : Int32), z1) else some ((2 : Int32), z1)
  | none => none
set_option maxHeartbeats 4000000 in
set_option maxRecDepth 100000 in
theorem okL_readAll (l : Launch) (hlf : l.stackTraces = false) (D : va_G) (cy : Nat → ClassId) (B : Nat → Nat → Nat) (ids : List (Nat × Nat)) (hst : zSt B ids) (N : Nat) (x0 : Nat) (hx0 : (11, x0) ∈ ids) (x1 : Int32) (x2 : Int32) (x3 : Int32) (x4 : Nat) (hx4 : (193, x4) ∈ ids) {z : St} {k : Int32} {z' : St} (hW : zWf ids z) (h : fL_readAll N x0 x1 x2 x3 x4 z = some (k, z')) : zMl l yL_readAll (zwsH yL_readAll cL_readAll 6 (some .int) [(0, 12, 15, 19), (0, 12, 19, 13)]) (rmL_readAll) D cy B ids [.ref (B 11 x0), .int x1, .int x2, .int x3, .ref (B 193 x4)] k z z' := by
  refine zMl_of hst hW (by decide +kernel) (Nat.le_of_ble_eq_true rfl) (fun p e s m args below meth c A ls F hA hret hlocks htab hX hLK hr hl => ?_)
  unfold fL_readAll at h
  rcases hf : fX11_readAll N x0 x1 x2 x3 z with _ | ⟨r, z1⟩
  · rw [hf] at h; cases h
  rw [hf] at h
  refine lv_aload F.1 F.2.1 dL_readAll_0 (lv_at hl 4 rfl) ?_
  refine lv_iconst (v := (0 : Int32)) F.1 F.2.1 dL_readAll_2 (by decide) ?_
  refine lv_aload_n F.1 F.2.1 dL_readAll_3 rfl (lv_at hl 0 rfl) ?_
  refine lv_iload_n F.1 F.2.1 dL_readAll_4 rfl (lv_at hl 1 rfl) ?_
  refine lv_iload_n F.1 F.2.1 dL_readAll_5 rfl (lv_at hl 2 rfl) ?_
  refine lv_iload_n F.1 F.2.1 dL_readAll_6 rfl (lv_at hl 3 rfl) ?_
  refine zL_spliti (zLrunV hX hA (As := [.int x1, .int x2, .int x3]) (rest := [.int (0 : Int32), .ref (B 193 x4)]) zq_1777 zq_1778 zs_X11_readAll zq_1780 zq_1 hdX11_readAll (by decide) (T := TX11) (N := 21) rfl (okX11_readAll l hlf D cy B ids hst N x0 hx0 x1 x2 x3 hr.2.2 hf) F hr hx0 hl.1 rfl (Nat.le_of_ble_eq_true rfl) dL_readAll_7 ⟨Nat.le_of_ble_eq_true rfl, Nat.le_of_ble_eq_true rfl⟩ ⟨Nat.le_of_ble_eq_true rfl, Nat.le_of_ble_eq_true rfl⟩) F hA hr (fun v H locs e0 hXv hr => ?_) (fun k9 H locs q9 ce e0 hr hq hv hcl => ?_)
  · subst e0
    replace h : some ((0 : Int32), zsL z1 193 x4 (Int32.toNatClampNeg (0 : Int32)) (Int32.toInt64 v)) = some (k, z') := h
    refine lv_i2l F.1 F.2.1 dL_readAll_10 rfl ?_
    refine zr_last (k := 193) (by decide) rfl (by decide) F hx4 hr dL_readAll_11 (by unfold vp_in; decide) (fun H locs z3 ez3 hr => ?_)
    subst ez3
    refine lv_goto (tgt := 23) F.1 F.2.1 dL_readAll_12 (by decide) ?_
    refine lv_iconst (v := (0 : Int32)) F.1 F.2.1 dL_readAll_23 (by decide) ?_
    obtain ⟨rfl, rfl⟩ := zret h
    exact zLe_i F hret hlocks dL_readAll_24 hr (Nat.le_of_ble_eq_true rfl) (Nat.le_of_ble_eq_true rfl)
  · subst e0
    replace h : (if k9 = 1 then some ((1 : Int32), z1) else some ((2 : Int32), z1)) = some (k, z') := h
    by_cases k1 : k9 = 1
    · replace h := zi_t k1 h
      subst k1
      refine vx_catch F.2.2.2.1 [] _ _ htab (fun z hz => absurd hz List.not_mem_nil) (by decide) (by decide) (F.2.2.2.2.1 _ zq_865) (zLK_1 hLK) hq hv hcl ?_
      refine lv_astore (lv' := [(5, .ref q9), (0, .ref (B 11 x0)), (1, .int x1), (2, .int x2), (3, .int x3), (4, .ref (B 193 x4))]) F.1 F.2.1 dL_readAll_15 hl (by decide) rfl (fun ls hl => ?_)
      refine lv_iconst (v := (1 : Int32)) F.1 F.2.1 dL_readAll_17 (by decide) ?_
      obtain ⟨rfl, rfl⟩ := zret h
      exact zLe_i F hret hlocks dL_readAll_18 hr (Nat.le_of_ble_eq_true rfl) (Nat.le_of_ble_eq_true rfl)
    · replace h := zi_f k1 h
      refine vx_catch F.2.2.2.1 [_] _ _ htab (fun z hz => by
          rw [List.mem_singleton] at hz
          subst hz
          exact Or.inr ⟨by decide, _, F.2.2.2.2.1 _ zq_865, zLK_3 k1 hLK⟩) (by decide) (by decide) (F.2.2.2.2.1 _ zq_330) (zLK_2 k1 hLK) hq hv hcl ?_
      refine lv_astore (lv' := [(5, .ref q9), (0, .ref (B 11 x0)), (1, .int x1), (2, .int x2), (3, .int x3), (4, .ref (B 193 x4))]) F.1 F.2.1 dL_readAll_19 hl (by decide) rfl (fun ls hl => ?_)
      refine lv_iconst (v := (2 : Int32)) F.1 F.2.1 dL_readAll_21 (by decide) ?_
      obtain ⟨rfl, rfl⟩ := zret h
      exact zLe_i F hret hlocks dL_readAll_22 hr (Nat.le_of_ble_eq_true rfl) (Nat.le_of_ble_eq_true rfl)
abbrev rmL_close : Room := { frames := 7, cells := 1, slots := 6, locals := 124 }
theorem hdL_close : yL_close.cls ≠ "java/lang/invoke/MethodHandle" ∧ yL_close.cls ≠ "java/lang/invoke/VarHandle" ∧ (parseMethodDescriptor yL_close.desc).map (fun d => d.parameters.length) = some 3 := by decide +kernel
def fL_close (N : Nat) (x0 : Nat) (x1 : Int32) (x2 : Int32) (z : St) : Option (Int32 × St) := match fX11_close N x0 x1 x2 z with
  | some (.inl v, z1) => some ((0 : Int32), z1)
  | some (.inr k9, z1) => if k9 = 1 then some ((1 : Int32), z1) else some ((2 : Int32), z1)
  | none => none
set_option maxHeartbeats 4000000 in
set_option maxRecDepth 100000 in
theorem okL_close (l : Launch) (hlf : l.stackTraces = false) (D : va_G) (cy : Nat → ClassId) (B : Nat → Nat → Nat) (ids : List (Nat × Nat)) (hst : zSt B ids) (N : Nat) (x0 : Nat) (hx0 : (11, x0) ∈ ids) (x1 : Int32) (x2 : Int32) {z : St} {k : Int32} {z' : St} (hW : zWf ids z) (h : fL_close N x0 x1 x2 z = some (k, z')) : zMl l yL_close (zwsH yL_close cL_close 4 (some .int) [(0, 6, 9, 19), (0, 6, 12, 13)]) (rmL_close) D cy B ids [.ref (B 11 x0), .int x1, .int x2] k z z' := by
  refine zMl_of hst hW (by decide +kernel) (Nat.le_of_ble_eq_true rfl) (fun p e s m args below meth c A ls F hA hret hlocks htab hX hLK hr hl => ?_)
  unfold fL_close at h
  rcases hf : fX11_close N x0 x1 x2 z with _ | ⟨r, z1⟩
  · rw [hf] at h; cases h
  rw [hf] at h
  refine lv_aload_n F.1 F.2.1 dL_close_0 rfl (lv_at hl 0 rfl) ?_
  refine lv_iload_n F.1 F.2.1 dL_close_1 rfl (lv_at hl 1 rfl) ?_
  refine lv_iload_n F.1 F.2.1 dL_close_2 rfl (lv_at hl 2 rfl) ?_
  refine zL_splitv (zLrunV hX hA (As := [.int x1, .int x2]) (rest := []) zq_1784 zq_1785 zs_X11_close zq_1787 zq_1 hdX11_close (by decide) (T := TX11) (N := 21) rfl (okX11_close l hlf D cy B ids hst N x0 hx0 x1 x2 hr.2.2 hf) F hr hx0 hl.1 rfl (Nat.le_of_ble_eq_true rfl) dL_close_3 ⟨Nat.le_of_ble_eq_true rfl, Nat.le_of_ble_eq_true rfl⟩ ⟨Nat.le_of_ble_eq_true rfl, Nat.le_of_ble_eq_true rfl⟩) F hA hr (fun v H locs e0 hXv hr => ?_) (fun k9 H locs q9 ce e0 hr hq hv hcl => ?_)
  · subst e0
    replace h : some ((0 : Int32), z1) = some (k, z') := h
    refine lv_goto (tgt := 15) F.1 F.2.1 dL_close_6 (by decide) ?_
    refine lv_iconst (v := (0 : Int32)) F.1 F.2.1 dL_close_15 (by decide) ?_
    obtain ⟨rfl, rfl⟩ := zret h
    exact zLe_i F hret hlocks dL_close_16 hr (Nat.le_of_ble_eq_true rfl) (Nat.le_of_ble_eq_true rfl)
  · subst e0
    replace h : (if k9 = 1 then some ((1 : Int32), z1) else some ((2 : Int32), z1)) = some (k, z') := h
    by_cases k1 : k9 = 1
    · replace h := zi_t k1 h
      subst k1
      refine vx_catch F.2.2.2.1 [] _ _ htab (fun z hz => absurd hz List.not_mem_nil) (by decide) (by decide) (F.2.2.2.2.1 _ zq_865) (zLK_1 hLK) hq hv hcl ?_
      refine lv_astore_n (lv' := [(3, .ref q9), (0, .ref (B 11 x0)), (1, .int x1), (2, .int x2)]) F.1 F.2.1 dL_close_9 rfl hl (by decide) rfl (fun ls hl => ?_)
      refine lv_iconst (v := (1 : Int32)) F.1 F.2.1 dL_close_10 (by decide) ?_
      obtain ⟨rfl, rfl⟩ := zret h
      exact zLe_i F hret hlocks dL_close_11 hr (Nat.le_of_ble_eq_true rfl) (Nat.le_of_ble_eq_true rfl)
    · replace h := zi_f k1 h
      refine vx_catch F.2.2.2.1 [_] _ _ htab (fun z hz => by
          rw [List.mem_singleton] at hz
          subst hz
          exact Or.inr ⟨by decide, _, F.2.2.2.2.1 _ zq_865, zLK_3 k1 hLK⟩) (by decide) (by decide) (F.2.2.2.2.1 _ zq_330) (zLK_2 k1 hLK) hq hv hcl ?_
      refine lv_astore_n (lv' := [(3, .ref q9), (0, .ref (B 11 x0)), (1, .int x1), (2, .int x2)]) F.1 F.2.1 dL_close_12 rfl hl (by decide) rfl (fun ls hl => ?_)
      refine lv_iconst (v := (2 : Int32)) F.1 F.2.1 dL_close_13 (by decide) ?_
      obtain ⟨rfl, rfl⟩ := zret h
      exact zLe_i F hret hlocks dL_close_14 hr (Nat.le_of_ble_eq_true rfl) (Nat.le_of_ble_eq_true rfl)
abbrev rmL_abort : Room := { frames := 7, cells := 1, slots := 6, locals := 123 }
theorem hdL_abort : yL_abort.cls ≠ "java/lang/invoke/MethodHandle" ∧ yL_abort.cls ≠ "java/lang/invoke/VarHandle" ∧ (parseMethodDescriptor yL_abort.desc).map (fun d => d.parameters.length) = some 3 := by decide +kernel
def fL_abort (N : Nat) (x0 : Nat) (x1 : Int32) (x2 : Int32) (z : St) : Option (Int32 × St) := match fX11_abort N x0 x1 x2 z with
  | some (.inl v, z1) => some ((0 : Int32), z1)
  | some (.inr k9, z1) => if k9 = 1 then some ((1 : Int32), z1) else some ((2 : Int32), z1)
  | none => none
set_option maxHeartbeats 4000000 in
set_option maxRecDepth 100000 in
theorem okL_abort (l : Launch) (hlf : l.stackTraces = false) (D : va_G) (cy : Nat → ClassId) (B : Nat → Nat → Nat) (ids : List (Nat × Nat)) (hst : zSt B ids) (N : Nat) (x0 : Nat) (hx0 : (11, x0) ∈ ids) (x1 : Int32) (x2 : Int32) {z : St} {k : Int32} {z' : St} (hW : zWf ids z) (h : fL_abort N x0 x1 x2 z = some (k, z')) : zMl l yL_abort (zwsH yL_abort cL_abort 4 (some .int) [(0, 6, 9, 19), (0, 6, 12, 13)]) (rmL_abort) D cy B ids [.ref (B 11 x0), .int x1, .int x2] k z z' := by
  refine zMl_of hst hW (by decide +kernel) (Nat.le_of_ble_eq_true rfl) (fun p e s m args below meth c A ls F hA hret hlocks htab hX hLK hr hl => ?_)
  unfold fL_abort at h
  rcases hf : fX11_abort N x0 x1 x2 z with _ | ⟨r, z1⟩
  · rw [hf] at h; cases h
  rw [hf] at h
  refine lv_aload_n F.1 F.2.1 dL_abort_0 rfl (lv_at hl 0 rfl) ?_
  refine lv_iload_n F.1 F.2.1 dL_abort_1 rfl (lv_at hl 1 rfl) ?_
  refine lv_iload_n F.1 F.2.1 dL_abort_2 rfl (lv_at hl 2 rfl) ?_
  refine zL_splitv (zLrunV hX hA (As := [.int x1, .int x2]) (rest := []) zq_1805 zq_1806 zs_X11_abort zq_1808 zq_1 hdX11_abort (by decide) (T := TX11) (N := 21) rfl (okX11_abort l hlf D cy B ids hst N x0 hx0 x1 x2 hr.2.2 hf) F hr hx0 hl.1 rfl (Nat.le_of_ble_eq_true rfl) dL_abort_3 ⟨Nat.le_of_ble_eq_true rfl, Nat.le_of_ble_eq_true rfl⟩ ⟨Nat.le_of_ble_eq_true rfl, Nat.le_of_ble_eq_true rfl⟩) F hA hr (fun v H locs e0 hXv hr => ?_) (fun k9 H locs q9 ce e0 hr hq hv hcl => ?_)
  · subst e0
    replace h : some ((0 : Int32), z1) = some (k, z') := h
    refine lv_goto (tgt := 15) F.1 F.2.1 dL_abort_6 (by decide) ?_
    refine lv_iconst (v := (0 : Int32)) F.1 F.2.1 dL_abort_15 (by decide) ?_
    obtain ⟨rfl, rfl⟩ := zret h
    exact zLe_i F hret hlocks dL_abort_16 hr (Nat.le_of_ble_eq_true rfl) (Nat.le_of_ble_eq_true rfl)
  · subst e0
    replace h : (if k9 = 1 then some ((1 : Int32), z1) else some ((2 : Int32), z1)) = some (k, z') := h
    by_cases k1 : k9 = 1
    · replace h := zi_t k1 h
      subst k1
      refine vx_catch F.2.2.2.1 [] _ _ htab (fun z hz => absurd hz List.not_mem_nil) (by decide) (by decide) (F.2.2.2.2.1 _ zq_865) (zLK_1 hLK) hq hv hcl ?_
      refine lv_astore_n (lv' := [(3, .ref q9), (0, .ref (B 11 x0)), (1, .int x1), (2, .int x2)]) F.1 F.2.1 dL_abort_9 rfl hl (by decide) rfl (fun ls hl => ?_)
      refine lv_iconst (v := (1 : Int32)) F.1 F.2.1 dL_abort_10 (by decide) ?_
      obtain ⟨rfl, rfl⟩ := zret h
      exact zLe_i F hret hlocks dL_abort_11 hr (Nat.le_of_ble_eq_true rfl) (Nat.le_of_ble_eq_true rfl)
    · replace h := zi_f k1 h
      refine vx_catch F.2.2.2.1 [_] _ _ htab (fun z hz => by
          rw [List.mem_singleton] at hz
          subst hz
          exact Or.inr ⟨by decide, _, F.2.2.2.2.1 _ zq_865, zLK_3 k1 hLK⟩) (by decide) (by decide) (F.2.2.2.2.1 _ zq_330) (zLK_2 k1 hLK) hq hv hcl ?_
      refine lv_astore_n (lv' := [(3, .ref q9), (0, .ref (B 11 x0)), (1, .int x1), (2, .int x2)]) F.1 F.2.1 dL_abort_12 rfl hl (by decide) rfl (fun ls hl => ?_)
      refine lv_iconst (v := (2 : Int32)) F.1 F.2.1 dL_abort_13 (by decide) ?_
      obtain ⟨rfl, rfl⟩ := zret h
      exact zLe_i F hret hlocks dL_abort_14 hr (Nat.le_of_ble_eq_true rfl) (Nat.le_of_ble_eq_true rfl)
abbrev rmL_door : Room := { frames := 7, cells := 1, slots := 6, locals := 125 }
theorem hdL_door : yL_door.cls ≠ "java/lang/invoke/MethodHandle" ∧ yL_door.cls ≠ "java/lang/invoke/VarHandle" ∧ (parseMethodDescriptor yL_door.desc).map (fun d => d.parameters.length) = some 5 := by decide +kernel
def fL_door (N : Nat) (x0 : Nat) (x1 : Int32) (x2 : Int32) (x3 : Int32) (x4 : Nat) (z : St) : Option (Int32 × St) := match fX11_door N x0 x1 x2 x3 z with
  | some (.inl v, z1) => some ((0 : Int32), zsL z1 193 x4 (Int32.toNatClampNeg (0 : Int32)) (Int32.toInt64 v))
  | some (.inr k9, z1) => if k9 = 1 then some ((1 : Int32), z1) else none
  | none => none
set_option maxHeartbeats 4000000 in
set_option maxRecDepth 100000 in
theorem okL_door (l : Launch) (hlf : l.stackTraces = false) (D : va_G) (cy : Nat → ClassId) (B : Nat → Nat → Nat) (ids : List (Nat × Nat)) (hst : zSt B ids) (N : Nat) (x0 : Nat) (hx0 : (11, x0) ∈ ids) (x1 : Int32) (x2 : Int32) (x3 : Int32) (x4 : Nat) (hx4 : (193, x4) ∈ ids) {z : St} {k : Int32} {z' : St} (hW : zWf ids z) (h : fL_door N x0 x1 x2 x3 x4 z = some (k, z')) : zMl l yL_door (zwsH yL_door cL_door 6 (some .int) [(0, 12, 15, 19)]) (rmL_door) D cy B ids [.ref (B 11 x0), .int x1, .int x2, .int x3, .ref (B 193 x4)] k z z' := by
  refine zMl_of hst hW (by decide +kernel) (Nat.le_of_ble_eq_true rfl) (fun p e s m args below meth c A ls F hA hret hlocks htab hX hLK hr hl => ?_)
  unfold fL_door at h
  rcases hf : fX11_door N x0 x1 x2 x3 z with _ | ⟨r, z1⟩
  · rw [hf] at h; cases h
  rw [hf] at h
  refine lv_aload F.1 F.2.1 dL_door_0 (lv_at hl 4 rfl) ?_
  refine lv_iconst (v := (0 : Int32)) F.1 F.2.1 dL_door_2 (by decide) ?_
  refine lv_aload_n F.1 F.2.1 dL_door_3 rfl (lv_at hl 0 rfl) ?_
  refine lv_iload_n F.1 F.2.1 dL_door_4 rfl (lv_at hl 1 rfl) ?_
  refine lv_iload_n F.1 F.2.1 dL_door_5 rfl (lv_at hl 2 rfl) ?_
  refine lv_iload_n F.1 F.2.1 dL_door_6 rfl (lv_at hl 3 rfl) ?_
  refine zL_spliti (zLrunV hX hA (As := [.int x1, .int x2, .int x3]) (rest := [.int (0 : Int32), .ref (B 193 x4)]) zq_1813 zq_1814 zs_X11_door zq_1816 zq_1 hdX11_door (by decide) (T := TX11) (N := 21) rfl (okX11_door l hlf D cy B ids hst N x0 hx0 x1 x2 x3 hr.2.2 hf) F hr hx0 hl.1 rfl (Nat.le_of_ble_eq_true rfl) dL_door_7 ⟨Nat.le_of_ble_eq_true rfl, Nat.le_of_ble_eq_true rfl⟩ ⟨Nat.le_of_ble_eq_true rfl, Nat.le_of_ble_eq_true rfl⟩) F hA hr (fun v H locs e0 hXv hr => ?_) (fun k9 H locs q9 ce e0 hr hq hv hcl => ?_)
  · subst e0
    replace h : some ((0 : Int32), zsL z1 193 x4 (Int32.toNatClampNeg (0 : Int32)) (Int32.toInt64 v)) = some (k, z') := h
    refine lv_i2l F.1 F.2.1 dL_door_10 rfl ?_
    refine zr_last (k := 193) (by decide) rfl (by decide) F hx4 hr dL_door_11 (by unfold vp_in; decide) (fun H locs z3 ez3 hr => ?_)
    subst ez3
    refine lv_goto (tgt := 19) F.1 F.2.1 dL_door_12 (by decide) ?_
    refine lv_iconst (v := (0 : Int32)) F.1 F.2.1 dL_door_19 (by decide) ?_
    obtain ⟨rfl, rfl⟩ := zret h
    exact zLe_i F hret hlocks dL_door_20 hr (Nat.le_of_ble_eq_true rfl) (Nat.le_of_ble_eq_true rfl)
  · subst e0
    replace h : (if k9 = 1 then some ((1 : Int32), z1) else none) = some (k, z') := h
    by_cases k1 : k9 = 1
    · replace h := zi_t k1 h
      subst k1
      refine vx_catch F.2.2.2.1 [] _ _ htab (fun z hz => absurd hz List.not_mem_nil) (by decide) (by decide) (F.2.2.2.2.1 _ zq_865) (zLK_1 hLK) hq hv hcl ?_
      refine lv_astore (lv' := [(5, .ref q9), (0, .ref (B 11 x0)), (1, .int x1), (2, .int x2), (3, .int x3), (4, .ref (B 193 x4))]) F.1 F.2.1 dL_door_15 hl (by decide) rfl (fun ls hl => ?_)
      refine lv_iconst (v := (1 : Int32)) F.1 F.2.1 dL_door_17 (by decide) ?_
      obtain ⟨rfl, rfl⟩ := zret h
      exact zLe_i F hret hlocks dL_door_18 hr (Nat.le_of_ble_eq_true rfl) (Nat.le_of_ble_eq_true rfl)
    · replace h := zi_f k1 h
      cases h
abbrev rmL_way : Room := { frames := 7, cells := 1, slots := 6, locals := 125 }
theorem hdL_way : yL_way.cls ≠ "java/lang/invoke/MethodHandle" ∧ yL_way.cls ≠ "java/lang/invoke/VarHandle" ∧ (parseMethodDescriptor yL_way.desc).map (fun d => d.parameters.length) = some 5 := by decide +kernel
def fL_way (N : Nat) (x0 : Nat) (x1 : Int32) (x2 : Int32) (x3 : Int32) (x4 : Nat) (z : St) : Option (Int32 × St) := match fX11_way N x0 x1 x2 x3 z with
  | some (.inl v, z1) => some ((0 : Int32), zsL z1 193 x4 (Int32.toNatClampNeg (0 : Int32)) (Int32.toInt64 v))
  | some (.inr k9, z1) => if k9 = 1 then some ((1 : Int32), z1) else none
  | none => none
set_option maxHeartbeats 4000000 in
set_option maxRecDepth 100000 in
theorem okL_way (l : Launch) (hlf : l.stackTraces = false) (D : va_G) (cy : Nat → ClassId) (B : Nat → Nat → Nat) (ids : List (Nat × Nat)) (hst : zSt B ids) (N : Nat) (x0 : Nat) (hx0 : (11, x0) ∈ ids) (x1 : Int32) (x2 : Int32) (x3 : Int32) (x4 : Nat) (hx4 : (193, x4) ∈ ids) {z : St} {k : Int32} {z' : St} (hW : zWf ids z) (h : fL_way N x0 x1 x2 x3 x4 z = some (k, z')) : zMl l yL_way (zwsH yL_way cL_way 6 (some .int) [(0, 12, 15, 19)]) (rmL_way) D cy B ids [.ref (B 11 x0), .int x1, .int x2, .int x3, .ref (B 193 x4)] k z z' := by
  refine zMl_of hst hW (by decide +kernel) (Nat.le_of_ble_eq_true rfl) (fun p e s m args below meth c A ls F hA hret hlocks htab hX hLK hr hl => ?_)
  unfold fL_way at h
  rcases hf : fX11_way N x0 x1 x2 x3 z with _ | ⟨r, z1⟩
  · rw [hf] at h; cases h
  rw [hf] at h
  refine lv_aload F.1 F.2.1 dL_way_0 (lv_at hl 4 rfl) ?_
  refine lv_iconst (v := (0 : Int32)) F.1 F.2.1 dL_way_2 (by decide) ?_
  refine lv_aload_n F.1 F.2.1 dL_way_3 rfl (lv_at hl 0 rfl) ?_
  refine lv_iload_n F.1 F.2.1 dL_way_4 rfl (lv_at hl 1 rfl) ?_
  refine lv_iload_n F.1 F.2.1 dL_way_5 rfl (lv_at hl 2 rfl) ?_
  refine lv_iload_n F.1 F.2.1 dL_way_6 rfl (lv_at hl 3 rfl) ?_
  refine zL_spliti (zLrunV hX hA (As := [.int x1, .int x2, .int x3]) (rest := [.int (0 : Int32), .ref (B 193 x4)]) zq_1821 zq_1822 zs_X11_way zq_1824 zq_1 hdX11_way (by decide) (T := TX11) (N := 21) rfl (okX11_way l hlf D cy B ids hst N x0 hx0 x1 x2 x3 hr.2.2 hf) F hr hx0 hl.1 rfl (Nat.le_of_ble_eq_true rfl) dL_way_7 ⟨Nat.le_of_ble_eq_true rfl, Nat.le_of_ble_eq_true rfl⟩ ⟨Nat.le_of_ble_eq_true rfl, Nat.le_of_ble_eq_true rfl⟩) F hA hr (fun v H locs e0 hXv hr => ?_) (fun k9 H locs q9 ce e0 hr hq hv hcl => ?_)
  · subst e0
    replace h : some ((0 : Int32), zsL z1 193 x4 (Int32.toNatClampNeg (0 : Int32)) (Int32.toInt64 v)) = some (k, z') := h
    refine lv_i2l F.1 F.2.1 dL_way_10 rfl ?_
    refine zr_last (k := 193) (by decide) rfl (by decide) F hx4 hr dL_way_11 (by unfold vp_in; decide) (fun H locs z3 ez3 hr => ?_)
    subst ez3
    refine lv_goto (tgt := 19) F.1 F.2.1 dL_way_12 (by decide) ?_
    refine lv_iconst (v := (0 : Int32)) F.1 F.2.1 dL_way_19 (by decide) ?_
    obtain ⟨rfl, rfl⟩ := zret h
    exact zLe_i F hret hlocks dL_way_20 hr (Nat.le_of_ble_eq_true rfl) (Nat.le_of_ble_eq_true rfl)
  · subst e0
    replace h : (if k9 = 1 then some ((1 : Int32), z1) else none) = some (k, z') := h
    by_cases k1 : k9 = 1
    · replace h := zi_t k1 h
      subst k1
      refine vx_catch F.2.2.2.1 [] _ _ htab (fun z hz => absurd hz List.not_mem_nil) (by decide) (by decide) (F.2.2.2.2.1 _ zq_865) (zLK_1 hLK) hq hv hcl ?_
      refine lv_astore (lv' := [(5, .ref q9), (0, .ref (B 11 x0)), (1, .int x1), (2, .int x2), (3, .int x3), (4, .ref (B 193 x4))]) F.1 F.2.1 dL_way_15 hl (by decide) rfl (fun ls hl => ?_)
      refine lv_iconst (v := (1 : Int32)) F.1 F.2.1 dL_way_17 (by decide) ?_
      obtain ⟨rfl, rfl⟩ := zret h
      exact zLe_i F hret hlocks dL_way_18 hr (Nat.le_of_ble_eq_true rfl) (Nat.le_of_ble_eq_true rfl)
    · replace h := zi_f k1 h
      cases h
abbrev rmL_friends : Room := { frames := 7, cells := 1, slots := 6, locals := 125 }
theorem hdL_friends : yL_friends.cls ≠ "java/lang/invoke/MethodHandle" ∧ yL_friends.cls ≠ "java/lang/invoke/VarHandle" ∧ (parseMethodDescriptor yL_friends.desc).map (fun d => d.parameters.length) = some 5 := by decide +kernel
def fL_friends (N : Nat) (x0 : Nat) (x1 : Int32) (x2 : Int32) (x3 : Int32) (x4 : Nat) (z : St) : Option (Int32 × St) := match fX11_friends N x0 x1 x2 x3 z with
  | some (.inl v, z1) => some ((0 : Int32), zsL z1 193 x4 (Int32.toNatClampNeg (0 : Int32)) (if v = 0 then (0 : Int64) else (1 : Int64)))
  | some (.inr k9, z1) => if k9 = 1 then some ((1 : Int32), z1) else none
  | none => none
set_option maxHeartbeats 4000000 in
set_option maxRecDepth 100000 in
theorem okL_friends (l : Launch) (hlf : l.stackTraces = false) (D : va_G) (cy : Nat → ClassId) (B : Nat → Nat → Nat) (ids : List (Nat × Nat)) (hst : zSt B ids) (N : Nat) (x0 : Nat) (hx0 : (11, x0) ∈ ids) (x1 : Int32) (x2 : Int32) (x3 : Int32) (x4 : Nat) (hx4 : (193, x4) ∈ ids) {z : St} {k : Int32} {z' : St} (hW : zWf ids z) (h : fL_friends N x0 x1 x2 x3 x4 z = some (k, z')) : zMl l yL_friends (zwsH yL_friends cL_friends 6 (some .int) [(0, 19, 22, 19)]) (rmL_friends) D cy B ids [.ref (B 11 x0), .int x1, .int x2, .int x3, .ref (B 193 x4)] k z z' := by
  refine zMl_of hst hW (by decide +kernel) (Nat.le_of_ble_eq_true rfl) (fun p e s m args below meth c A ls F hA hret hlocks htab hX hLK hr hl => ?_)
  unfold fL_friends at h
  rcases hf : fX11_friends N x0 x1 x2 x3 z with _ | ⟨r, z1⟩
  · rw [hf] at h; cases h
  rw [hf] at h
  refine lv_aload F.1 F.2.1 dL_friends_0 (lv_at hl 4 rfl) ?_
  refine lv_iconst (v := (0 : Int32)) F.1 F.2.1 dL_friends_2 (by decide) ?_
  refine lv_aload_n F.1 F.2.1 dL_friends_3 rfl (lv_at hl 0 rfl) ?_
  refine lv_iload_n F.1 F.2.1 dL_friends_4 rfl (lv_at hl 1 rfl) ?_
  refine lv_iload_n F.1 F.2.1 dL_friends_5 rfl (lv_at hl 2 rfl) ?_
  refine lv_iload_n F.1 F.2.1 dL_friends_6 rfl (lv_at hl 3 rfl) ?_
  refine zL_spliti (zLrunV hX hA (As := [.int x1, .int x2, .int x3]) (rest := [.int (0 : Int32), .ref (B 193 x4)]) zq_1829 zq_1830 zs_X11_friends zq_1832 zq_1 hdX11_friends (by decide) (T := TX11) (N := 21) rfl (okX11_friends l hlf D cy B ids hst N x0 hx0 x1 x2 x3 hr.2.2 hf) F hr hx0 hl.1 rfl (Nat.le_of_ble_eq_true rfl) dL_friends_7 ⟨Nat.le_of_ble_eq_true rfl, Nat.le_of_ble_eq_true rfl⟩ ⟨Nat.le_of_ble_eq_true rfl, Nat.le_of_ble_eq_true rfl⟩) F hA hr (fun v H locs e0 hXv hr => ?_) (fun k9 H locs q9 ce e0 hr hq hv hcl => ?_)
  · subst e0
    replace h : some ((0 : Int32), zsL z1 193 x4 (Int32.toNatClampNeg (0 : Int32)) (if v = 0 then (0 : Int64) else (1 : Int64))) = some (k, z') := h
    refine lv_if_eq (tgt := 17) F.1 F.2.1 dL_friends_10 (by decide) (fun c1 => ?_) (fun c1 => ?_)
    · replace h := h
      rw [if_pos c1] at h
      refine lv_lconst (v := (0 : Int64)) F.1 F.2.1 dL_friends_17 (by decide) ?_
      refine zr_last (k := 193) (by decide) rfl (by decide) F hx4 hr dL_friends_18 (by unfold vp_in; decide) (fun H locs z3 ez3 hr => ?_)
      subst ez3
      refine lv_goto (tgt := 26) F.1 F.2.1 dL_friends_19 (by decide) ?_
      refine lv_iconst (v := (0 : Int32)) F.1 F.2.1 dL_friends_26 (by decide) ?_
      obtain ⟨rfl, rfl⟩ := zret h
      exact zLe_i F hret hlocks dL_friends_27 hr (Nat.le_of_ble_eq_true rfl) (Nat.le_of_ble_eq_true rfl)
    · rw [if_neg c1] at h
      refine lv_lconst (v := (1 : Int64)) F.1 F.2.1 dL_friends_13 (by decide) ?_
      refine lv_goto (tgt := 18) F.1 F.2.1 dL_friends_14 (by decide) ?_
      refine zr_last (k := 193) (by decide) rfl (by decide) F hx4 hr dL_friends_18 (by unfold vp_in; decide) (fun H locs z3 ez3 hr => ?_)
      subst ez3
      refine lv_goto (tgt := 26) F.1 F.2.1 dL_friends_19 (by decide) ?_
      refine lv_iconst (v := (0 : Int32)) F.1 F.2.1 dL_friends_26 (by decide) ?_
      obtain ⟨rfl, rfl⟩ := zret h
      exact zLe_i F hret hlocks dL_friends_27 hr (Nat.le_of_ble_eq_true rfl) (Nat.le_of_ble_eq_true rfl)
  · subst e0
    replace h : (if k9 = 1 then some ((1 : Int32), z1) else none) = some (k, z') := h
    by_cases k1 : k9 = 1
    · replace h := zi_t k1 h
      subst k1
      refine vx_catch F.2.2.2.1 [] _ _ htab (fun z hz => absurd hz List.not_mem_nil) (by decide) (by decide) (F.2.2.2.2.1 _ zq_865) (zLK_1 hLK) hq hv hcl ?_
      refine lv_astore (lv' := [(5, .ref q9), (0, .ref (B 11 x0)), (1, .int x1), (2, .int x2), (3, .int x3), (4, .ref (B 193 x4))]) F.1 F.2.1 dL_friends_22 hl (by decide) rfl (fun ls hl => ?_)
      refine lv_iconst (v := (1 : Int32)) F.1 F.2.1 dL_friends_24 (by decide) ?_
      obtain ⟨rfl, rfl⟩ := zret h
      exact zLe_i F hret hlocks dL_friends_25 hr (Nat.le_of_ble_eq_true rfl) (Nat.le_of_ble_eq_true rfl)
    · replace h := zi_f k1 h
      cases h
abbrev rmL_advert : Room := { frames := 7, cells := 1, slots := 6, locals := 124 }
theorem hdL_advert : yL_advert.cls ≠ "java/lang/invoke/MethodHandle" ∧ yL_advert.cls ≠ "java/lang/invoke/VarHandle" ∧ (parseMethodDescriptor yL_advert.desc).map (fun d => d.parameters.length) = some 4 := by decide +kernel
def fL_advert (N : Nat) (x0 : Nat) (x1 : Int32) (x2 : Int32) (x3 : Nat) (z : St) : Option (Int32 × St) := match fX11_advert N x0 x1 x2 z with
  | some (.inl v, z1) => some ((0 : Int32), zsL z1 193 x3 (Int32.toNatClampNeg (0 : Int32)) (Int32.toInt64 v))
  | some (.inr k9, z1) => if k9 = 1 then some ((1 : Int32), z1) else none
  | none => none
set_option maxHeartbeats 4000000 in
set_option maxRecDepth 100000 in
theorem okL_advert (l : Launch) (hlf : l.stackTraces = false) (D : va_G) (cy : Nat → ClassId) (B : Nat → Nat → Nat) (ids : List (Nat × Nat)) (hst : zSt B ids) (N : Nat) (x0 : Nat) (hx0 : (11, x0) ∈ ids) (x1 : Int32) (x2 : Int32) (x3 : Nat) (hx3 : (193, x3) ∈ ids) {z : St} {k : Int32} {z' : St} (hW : zWf ids z) (h : fL_advert N x0 x1 x2 x3 z = some (k, z')) : zMl l yL_advert (zwsH yL_advert cL_advert 5 (some .int) [(0, 10, 13, 19)]) (rmL_advert) D cy B ids [.ref (B 11 x0), .int x1, .int x2, .ref (B 193 x3)] k z z' := by
  refine zMl_of hst hW (by decide +kernel) (Nat.le_of_ble_eq_true rfl) (fun p e s m args below meth c A ls F hA hret hlocks htab hX hLK hr hl => ?_)
  unfold fL_advert at h
  rcases hf : fX11_advert N x0 x1 x2 z with _ | ⟨r, z1⟩
  · rw [hf] at h; cases h
  rw [hf] at h
  refine lv_aload_n F.1 F.2.1 dL_advert_0 rfl (lv_at hl 3 rfl) ?_
  refine lv_iconst (v := (0 : Int32)) F.1 F.2.1 dL_advert_1 (by decide) ?_
  refine lv_aload_n F.1 F.2.1 dL_advert_2 rfl (lv_at hl 0 rfl) ?_
  refine lv_iload_n F.1 F.2.1 dL_advert_3 rfl (lv_at hl 1 rfl) ?_
  refine lv_iload_n F.1 F.2.1 dL_advert_4 rfl (lv_at hl 2 rfl) ?_
  refine zL_spliti (zLrunV hX hA (As := [.int x1, .int x2]) (rest := [.int (0 : Int32), .ref (B 193 x3)]) zq_1837 zq_1838 zs_X11_advert zq_1840 zq_1 hdX11_advert (by decide) (T := TX11) (N := 21) rfl (okX11_advert l hlf D cy B ids hst N x0 hx0 x1 x2 hr.2.2 hf) F hr hx0 hl.1 rfl (Nat.le_of_ble_eq_true rfl) dL_advert_5 ⟨Nat.le_of_ble_eq_true rfl, Nat.le_of_ble_eq_true rfl⟩ ⟨Nat.le_of_ble_eq_true rfl, Nat.le_of_ble_eq_true rfl⟩) F hA hr (fun v H locs e0 hXv hr => ?_) (fun k9 H locs q9 ce e0 hr hq hv hcl => ?_)
  · subst e0
    replace h : some ((0 : Int32), zsL z1 193 x3 (Int32.toNatClampNeg (0 : Int32)) (Int32.toInt64 v)) = some (k, z') := h
    refine lv_i2l F.1 F.2.1 dL_advert_8 rfl ?_
    refine zr_last (k := 193) (by decide) rfl (by decide) F hx3 hr dL_advert_9 (by unfold vp_in; decide) (fun H locs z3 ez3 hr => ?_)
    subst ez3
    refine lv_goto (tgt := 17) F.1 F.2.1 dL_advert_10 (by decide) ?_
    refine lv_iconst (v := (0 : Int32)) F.1 F.2.1 dL_advert_17 (by decide) ?_
    obtain ⟨rfl, rfl⟩ := zret h
    exact zLe_i F hret hlocks dL_advert_18 hr (Nat.le_of_ble_eq_true rfl) (Nat.le_of_ble_eq_true rfl)
  · subst e0
    replace h : (if k9 = 1 then some ((1 : Int32), z1) else none) = some (k, z') := h
    by_cases k1 : k9 = 1
    · replace h := zi_t k1 h
      subst k1
      refine vx_catch F.2.2.2.1 [] _ _ htab (fun z hz => absurd hz List.not_mem_nil) (by decide) (by decide) (F.2.2.2.2.1 _ zq_865) (zLK_1 hLK) hq hv hcl ?_
      refine lv_astore (lv' := [(4, .ref q9), (0, .ref (B 11 x0)), (1, .int x1), (2, .int x2), (3, .ref (B 193 x3))]) F.1 F.2.1 dL_advert_13 hl (by decide) rfl (fun ls hl => ?_)
      refine lv_iconst (v := (1 : Int32)) F.1 F.2.1 dL_advert_15 (by decide) ?_
      obtain ⟨rfl, rfl⟩ := zret h
      exact zLe_i F hret hlocks dL_advert_16 hr (Nat.le_of_ble_eq_true rfl) (Nat.le_of_ble_eq_true rfl)
    · replace h := zi_f k1 h
      cases h
abbrev rmL_count : Room := { frames := 7, cells := 1, slots := 6, locals := 123 }
theorem hdL_count : yL_count.cls ≠ "java/lang/invoke/MethodHandle" ∧ yL_count.cls ≠ "java/lang/invoke/VarHandle" ∧ (parseMethodDescriptor yL_count.desc).map (fun d => d.parameters.length) = some 4 := by decide +kernel
def fL_count (N : Nat) (x0 : Nat) (x1 : Int32) (x2 : Int32) (x3 : Nat) (z : St) : Option (Int32 × St) := match fX11_count N x0 x1 x2 z with
  | some (.inl v, z1) => some ((0 : Int32), zsL z1 193 x3 (Int32.toNatClampNeg (0 : Int32)) (Int32.toInt64 v))
  | some (.inr k9, z1) => if k9 = 1 then some ((1 : Int32), z1) else none
  | none => none
set_option maxHeartbeats 4000000 in
set_option maxRecDepth 100000 in
theorem okL_count (l : Launch) (hlf : l.stackTraces = false) (D : va_G) (cy : Nat → ClassId) (B : Nat → Nat → Nat) (ids : List (Nat × Nat)) (hst : zSt B ids) (N : Nat) (x0 : Nat) (hx0 : (11, x0) ∈ ids) (x1 : Int32) (x2 : Int32) (x3 : Nat) (hx3 : (193, x3) ∈ ids) {z : St} {k : Int32} {z' : St} (hW : zWf ids z) (h : fL_count N x0 x1 x2 x3 z = some (k, z')) : zMl l yL_count (zwsH yL_count cL_count 5 (some .int) [(0, 10, 13, 19)]) (rmL_count) D cy B ids [.ref (B 11 x0), .int x1, .int x2, .ref (B 193 x3)] k z z' := by
  refine zMl_of hst hW (by decide +kernel) (Nat.le_of_ble_eq_true rfl) (fun p e s m args below meth c A ls F hA hret hlocks htab hX hLK hr hl => ?_)
  unfold fL_count at h
  rcases hf : fX11_count N x0 x1 x2 z with _ | ⟨r, z1⟩
  · rw [hf] at h; cases h
  rw [hf] at h
  refine lv_aload_n F.1 F.2.1 dL_count_0 rfl (lv_at hl 3 rfl) ?_
  refine lv_iconst (v := (0 : Int32)) F.1 F.2.1 dL_count_1 (by decide) ?_
  refine lv_aload_n F.1 F.2.1 dL_count_2 rfl (lv_at hl 0 rfl) ?_
  refine lv_iload_n F.1 F.2.1 dL_count_3 rfl (lv_at hl 1 rfl) ?_
  refine lv_iload_n F.1 F.2.1 dL_count_4 rfl (lv_at hl 2 rfl) ?_
  refine zL_spliti (zLrunV hX hA (As := [.int x1, .int x2]) (rest := [.int (0 : Int32), .ref (B 193 x3)]) zq_1844 zq_1845 zs_X11_count zq_1847 zq_1 hdX11_count (by decide) (T := TX11) (N := 21) rfl (okX11_count l hlf D cy B ids hst N x0 hx0 x1 x2 hr.2.2 hf) F hr hx0 hl.1 rfl (Nat.le_of_ble_eq_true rfl) dL_count_5 ⟨Nat.le_of_ble_eq_true rfl, Nat.le_of_ble_eq_true rfl⟩ ⟨Nat.le_of_ble_eq_true rfl, Nat.le_of_ble_eq_true rfl⟩) F hA hr (fun v H locs e0 hXv hr => ?_) (fun k9 H locs q9 ce e0 hr hq hv hcl => ?_)
  · subst e0
    replace h : some ((0 : Int32), zsL z1 193 x3 (Int32.toNatClampNeg (0 : Int32)) (Int32.toInt64 v)) = some (k, z') := h
    refine lv_i2l F.1 F.2.1 dL_count_8 rfl ?_
    refine zr_last (k := 193) (by decide) rfl (by decide) F hx3 hr dL_count_9 (by unfold vp_in; decide) (fun H locs z3 ez3 hr => ?_)
    subst ez3
    refine lv_goto (tgt := 17) F.1 F.2.1 dL_count_10 (by decide) ?_
    refine lv_iconst (v := (0 : Int32)) F.1 F.2.1 dL_count_17 (by decide) ?_
    obtain ⟨rfl, rfl⟩ := zret h
    exact zLe_i F hret hlocks dL_count_18 hr (Nat.le_of_ble_eq_true rfl) (Nat.le_of_ble_eq_true rfl)
  · subst e0
    replace h : (if k9 = 1 then some ((1 : Int32), z1) else none) = some (k, z') := h
    by_cases k1 : k9 = 1
    · replace h := zi_t k1 h
      subst k1
      refine vx_catch F.2.2.2.1 [] _ _ htab (fun z hz => absurd hz List.not_mem_nil) (by decide) (by decide) (F.2.2.2.2.1 _ zq_865) (zLK_1 hLK) hq hv hcl ?_
      refine lv_astore (lv' := [(4, .ref q9), (0, .ref (B 11 x0)), (1, .int x1), (2, .int x2), (3, .ref (B 193 x3))]) F.1 F.2.1 dL_count_13 hl (by decide) rfl (fun ls hl => ?_)
      refine lv_iconst (v := (1 : Int32)) F.1 F.2.1 dL_count_15 (by decide) ?_
      obtain ⟨rfl, rfl⟩ := zret h
      exact zLe_i F hret hlocks dL_count_16 hr (Nat.le_of_ble_eq_true rfl) (Nat.le_of_ble_eq_true rfl)
    · replace h := zi_f k1 h
      cases h
abbrev rmL_shouldCost : Room := { frames := 7, cells := 1, slots := 6, locals := 124 }
theorem hdL_shouldCost : yL_shouldCost.cls ≠ "java/lang/invoke/MethodHandle" ∧ yL_shouldCost.cls ≠ "java/lang/invoke/VarHandle" ∧ (parseMethodDescriptor yL_shouldCost.desc).map (fun d => d.parameters.length) = some 4 := by decide +kernel
def fL_shouldCost (N : Nat) (x0 : Nat) (x1 : Int32) (x2 : Int32) (x3 : Nat) (z : St) : Option (Int32 × St) := match fX11_shouldCost N x0 x1 x2 z with
  | some (.inl v, z1) => some ((0 : Int32), zsL z1 193 x3 (Int32.toNatClampNeg (0 : Int32)) (Int32.toInt64 v))
  | some (.inr k9, z1) => if k9 = 1 then some ((1 : Int32), z1) else none
  | none => none
set_option maxHeartbeats 4000000 in
set_option maxRecDepth 100000 in
theorem okL_shouldCost (l : Launch) (hlf : l.stackTraces = false) (D : va_G) (cy : Nat → ClassId) (B : Nat → Nat → Nat) (ids : List (Nat × Nat)) (hst : zSt B ids) (N : Nat) (x0 : Nat) (hx0 : (11, x0) ∈ ids) (x1 : Int32) (x2 : Int32) (x3 : Nat) (hx3 : (193, x3) ∈ ids) {z : St} {k : Int32} {z' : St} (hW : zWf ids z) (h : fL_shouldCost N x0 x1 x2 x3 z = some (k, z')) : zMl l yL_shouldCost (zwsH yL_shouldCost cL_shouldCost 5 (some .int) [(0, 10, 13, 19)]) (rmL_shouldCost) D cy B ids [.ref (B 11 x0), .int x1, .int x2, .ref (B 193 x3)] k z z' := by
  refine zMl_of hst hW (by decide +kernel) (Nat.le_of_ble_eq_true rfl) (fun p e s m args below meth c A ls F hA hret hlocks htab hX hLK hr hl => ?_)
  unfold fL_shouldCost at h
  rcases hf : fX11_shouldCost N x0 x1 x2 z with _ | ⟨r, z1⟩
  · rw [hf] at h; cases h
  rw [hf] at h
  refine lv_aload_n F.1 F.2.1 dL_shouldCost_0 rfl (lv_at hl 3 rfl) ?_
  refine lv_iconst (v := (0 : Int32)) F.1 F.2.1 dL_shouldCost_1 (by decide) ?_
  refine lv_aload_n F.1 F.2.1 dL_shouldCost_2 rfl (lv_at hl 0 rfl) ?_
  refine lv_iload_n F.1 F.2.1 dL_shouldCost_3 rfl (lv_at hl 1 rfl) ?_
  refine lv_iload_n F.1 F.2.1 dL_shouldCost_4 rfl (lv_at hl 2 rfl) ?_
  refine zL_spliti (zLrunV hX hA (As := [.int x1, .int x2]) (rest := [.int (0 : Int32), .ref (B 193 x3)]) zq_1853 zq_1854 zs_X11_shouldCost zq_1856 zq_1 hdX11_shouldCost (by decide) (T := TX11) (N := 21) rfl (okX11_shouldCost l hlf D cy B ids hst N x0 hx0 x1 x2 hr.2.2 hf) F hr hx0 hl.1 rfl (Nat.le_of_ble_eq_true rfl) dL_shouldCost_5 ⟨Nat.le_of_ble_eq_true rfl, Nat.le_of_ble_eq_true rfl⟩ ⟨Nat.le_of_ble_eq_true rfl, Nat.le_of_ble_eq_true rfl⟩) F hA hr (fun v H locs e0 hXv hr => ?_) (fun k9 H locs q9 ce e0 hr hq hv hcl => ?_)
  · subst e0
    replace h : some ((0 : Int32), zsL z1 193 x3 (Int32.toNatClampNeg (0 : Int32)) (Int32.toInt64 v)) = some (k, z') := h
    refine lv_i2l F.1 F.2.1 dL_shouldCost_8 rfl ?_
    refine zr_last (k := 193) (by decide) rfl (by decide) F hx3 hr dL_shouldCost_9 (by unfold vp_in; decide) (fun H locs z3 ez3 hr => ?_)
    subst ez3
    refine lv_goto (tgt := 17) F.1 F.2.1 dL_shouldCost_10 (by decide) ?_
    refine lv_iconst (v := (0 : Int32)) F.1 F.2.1 dL_shouldCost_17 (by decide) ?_
    obtain ⟨rfl, rfl⟩ := zret h
    exact zLe_i F hret hlocks dL_shouldCost_18 hr (Nat.le_of_ble_eq_true rfl) (Nat.le_of_ble_eq_true rfl)
  · subst e0
    replace h : (if k9 = 1 then some ((1 : Int32), z1) else none) = some (k, z') := h
    by_cases k1 : k9 = 1
    · replace h := zi_t k1 h
      subst k1
      refine vx_catch F.2.2.2.1 [] _ _ htab (fun z hz => absurd hz List.not_mem_nil) (by decide) (by decide) (F.2.2.2.2.1 _ zq_865) (zLK_1 hLK) hq hv hcl ?_
      refine lv_astore (lv' := [(4, .ref q9), (0, .ref (B 11 x0)), (1, .int x1), (2, .int x2), (3, .ref (B 193 x3))]) F.1 F.2.1 dL_shouldCost_13 hl (by decide) rfl (fun ls hl => ?_)
      refine lv_iconst (v := (1 : Int32)) F.1 F.2.1 dL_shouldCost_15 (by decide) ?_
      obtain ⟨rfl, rfl⟩ := zret h
      exact zLe_i F hret hlocks dL_shouldCost_16 hr (Nat.le_of_ble_eq_true rfl) (Nat.le_of_ble_eq_true rfl)
    · replace h := zi_f k1 h
      cases h
abbrev rmL_drain : Room := { frames := 7, cells := 1, slots := 6, locals := 124 }
theorem hdL_drain : yL_drain.cls ≠ "java/lang/invoke/MethodHandle" ∧ yL_drain.cls ≠ "java/lang/invoke/VarHandle" ∧ (parseMethodDescriptor yL_drain.desc).map (fun d => d.parameters.length) = some 4 := by decide +kernel
def fL_drain (N : Nat) (x0 : Nat) (x1 : Int32) (x2 : Int32) (x3 : Int32) (z : St) : Option (Int32 × St) := match fX11_drain N x0 x1 x2 x3 z with
  | some (.inl v, z1) => some ((0 : Int32), z1)
  | some (.inr k9, z1) => if k9 = 1 then some ((1 : Int32), z1) else some ((2 : Int32), z1)
  | none => none
set_option maxHeartbeats 4000000 in
set_option maxRecDepth 100000 in
theorem okL_drain (l : Launch) (hlf : l.stackTraces = false) (D : va_G) (cy : Nat → ClassId) (B : Nat → Nat → Nat) (ids : List (Nat × Nat)) (hst : zSt B ids) (N : Nat) (x0 : Nat) (hx0 : (11, x0) ∈ ids) (x1 : Int32) (x2 : Int32) (x3 : Int32) {z : St} {k : Int32} {z' : St} (hW : zWf ids z) (h : fL_drain N x0 x1 x2 x3 z = some (k, z')) : zMl l yL_drain (zwsH yL_drain cL_drain 5 (some .int) [(0, 7, 10, 19), (0, 7, 14, 13)]) (rmL_drain) D cy B ids [.ref (B 11 x0), .int x1, .int x2, .int x3] k z z' := by
  refine zMl_of hst hW (by decide +kernel) (Nat.le_of_ble_eq_true rfl) (fun p e s m args below meth c A ls F hA hret hlocks htab hX hLK hr hl => ?_)
  unfold fL_drain at h
  rcases hf : fX11_drain N x0 x1 x2 x3 z with _ | ⟨r, z1⟩
  · rw [hf] at h; cases h
  rw [hf] at h
  refine lv_aload_n F.1 F.2.1 dL_drain_0 rfl (lv_at hl 0 rfl) ?_
  refine lv_iload_n F.1 F.2.1 dL_drain_1 rfl (lv_at hl 1 rfl) ?_
  refine lv_iload_n F.1 F.2.1 dL_drain_2 rfl (lv_at hl 2 rfl) ?_
  refine lv_iload_n F.1 F.2.1 dL_drain_3 rfl (lv_at hl 3 rfl) ?_
  refine zL_splitv (zLrunV hX hA (As := [.int x1, .int x2, .int x3]) (rest := []) zq_1860 zq_1861 zs_X11_drain zq_1863 zq_1 hdX11_drain (by decide) (T := TX11) (N := 21) rfl (okX11_drain l hlf D cy B ids hst N x0 hx0 x1 x2 x3 hr.2.2 hf) F hr hx0 hl.1 rfl (Nat.le_of_ble_eq_true rfl) dL_drain_4 ⟨Nat.le_of_ble_eq_true rfl, Nat.le_of_ble_eq_true rfl⟩ ⟨Nat.le_of_ble_eq_true rfl, Nat.le_of_ble_eq_true rfl⟩) F hA hr (fun v H locs e0 hXv hr => ?_) (fun k9 H locs q9 ce e0 hr hq hv hcl => ?_)
  · subst e0
    replace h : some ((0 : Int32), z1) = some (k, z') := h
    refine lv_goto (tgt := 18) F.1 F.2.1 dL_drain_7 (by decide) ?_
    refine lv_iconst (v := (0 : Int32)) F.1 F.2.1 dL_drain_18 (by decide) ?_
    obtain ⟨rfl, rfl⟩ := zret h
    exact zLe_i F hret hlocks dL_drain_19 hr (Nat.le_of_ble_eq_true rfl) (Nat.le_of_ble_eq_true rfl)
  · subst e0
    replace h : (if k9 = 1 then some ((1 : Int32), z1) else some ((2 : Int32), z1)) = some (k, z') := h
    by_cases k1 : k9 = 1
    · replace h := zi_t k1 h
      subst k1
      refine vx_catch F.2.2.2.1 [] _ _ htab (fun z hz => absurd hz List.not_mem_nil) (by decide) (by decide) (F.2.2.2.2.1 _ zq_865) (zLK_1 hLK) hq hv hcl ?_
      refine lv_astore (lv' := [(4, .ref q9), (0, .ref (B 11 x0)), (1, .int x1), (2, .int x2), (3, .int x3)]) F.1 F.2.1 dL_drain_10 hl (by decide) rfl (fun ls hl => ?_)
      refine lv_iconst (v := (1 : Int32)) F.1 F.2.1 dL_drain_12 (by decide) ?_
      obtain ⟨rfl, rfl⟩ := zret h
      exact zLe_i F hret hlocks dL_drain_13 hr (Nat.le_of_ble_eq_true rfl) (Nat.le_of_ble_eq_true rfl)
    · replace h := zi_f k1 h
      refine vx_catch F.2.2.2.1 [_] _ _ htab (fun z hz => by
          rw [List.mem_singleton] at hz
          subst hz
          exact Or.inr ⟨by decide, _, F.2.2.2.2.1 _ zq_865, zLK_3 k1 hLK⟩) (by decide) (by decide) (F.2.2.2.2.1 _ zq_330) (zLK_2 k1 hLK) hq hv hcl ?_
      refine lv_astore (lv' := [(4, .ref q9), (0, .ref (B 11 x0)), (1, .int x1), (2, .int x2), (3, .int x3)]) F.1 F.2.1 dL_drain_14 hl (by decide) rfl (fun ls hl => ?_)
      refine lv_iconst (v := (2 : Int32)) F.1 F.2.1 dL_drain_16 (by decide) ?_
      obtain ⟨rfl, rfl⟩ := zret h
      exact zLe_i F hret hlocks dL_drain_17 hr (Nat.le_of_ble_eq_true rfl) (Nat.le_of_ble_eq_true rfl)
abbrev rmL_drained : Room := { frames := 7, cells := 1, slots := 6, locals := 123 }
theorem hdL_drained : yL_drained.cls ≠ "java/lang/invoke/MethodHandle" ∧ yL_drained.cls ≠ "java/lang/invoke/VarHandle" ∧ (parseMethodDescriptor yL_drained.desc).map (fun d => d.parameters.length) = some 4 := by decide +kernel
def fL_drained (N : Nat) (x0 : Nat) (x1 : Int32) (x2 : Int32) (x3 : Nat) (z : St) : Option (Int32 × St) := match fX11_drained N x0 x1 x2 z with
  | some (.inl v, z1) => some ((0 : Int32), zsL z1 193 x3 (Int32.toNatClampNeg (0 : Int32)) (Int32.toInt64 v))
  | some (.inr k9, z1) => if k9 = 1 then some ((1 : Int32), z1) else none
  | none => none
set_option maxHeartbeats 4000000 in
set_option maxRecDepth 100000 in
theorem okL_drained (l : Launch) (hlf : l.stackTraces = false) (D : va_G) (cy : Nat → ClassId) (B : Nat → Nat → Nat) (ids : List (Nat × Nat)) (hst : zSt B ids) (N : Nat) (x0 : Nat) (hx0 : (11, x0) ∈ ids) (x1 : Int32) (x2 : Int32) (x3 : Nat) (hx3 : (193, x3) ∈ ids) {z : St} {k : Int32} {z' : St} (hW : zWf ids z) (h : fL_drained N x0 x1 x2 x3 z = some (k, z')) : zMl l yL_drained (zwsH yL_drained cL_drained 5 (some .int) [(0, 10, 13, 19)]) (rmL_drained) D cy B ids [.ref (B 11 x0), .int x1, .int x2, .ref (B 193 x3)] k z z' := by
  refine zMl_of hst hW (by decide +kernel) (Nat.le_of_ble_eq_true rfl) (fun p e s m args below meth c A ls F hA hret hlocks htab hX hLK hr hl => ?_)
  unfold fL_drained at h
  rcases hf : fX11_drained N x0 x1 x2 z with _ | ⟨r, z1⟩
  · rw [hf] at h; cases h
  rw [hf] at h
  refine lv_aload_n F.1 F.2.1 dL_drained_0 rfl (lv_at hl 3 rfl) ?_
  refine lv_iconst (v := (0 : Int32)) F.1 F.2.1 dL_drained_1 (by decide) ?_
  refine lv_aload_n F.1 F.2.1 dL_drained_2 rfl (lv_at hl 0 rfl) ?_
  refine lv_iload_n F.1 F.2.1 dL_drained_3 rfl (lv_at hl 1 rfl) ?_
  refine lv_iload_n F.1 F.2.1 dL_drained_4 rfl (lv_at hl 2 rfl) ?_
  refine zL_spliti (zLrunV hX hA (As := [.int x1, .int x2]) (rest := [.int (0 : Int32), .ref (B 193 x3)]) zq_1867 zq_1868 zs_X11_drained zq_1870 zq_1 hdX11_drained (by decide) (T := TX11) (N := 21) rfl (okX11_drained l hlf D cy B ids hst N x0 hx0 x1 x2 hr.2.2 hf) F hr hx0 hl.1 rfl (Nat.le_of_ble_eq_true rfl) dL_drained_5 ⟨Nat.le_of_ble_eq_true rfl, Nat.le_of_ble_eq_true rfl⟩ ⟨Nat.le_of_ble_eq_true rfl, Nat.le_of_ble_eq_true rfl⟩) F hA hr (fun v H locs e0 hXv hr => ?_) (fun k9 H locs q9 ce e0 hr hq hv hcl => ?_)
  · subst e0
    replace h : some ((0 : Int32), zsL z1 193 x3 (Int32.toNatClampNeg (0 : Int32)) (Int32.toInt64 v)) = some (k, z') := h
    refine lv_i2l F.1 F.2.1 dL_drained_8 rfl ?_
    refine zr_last (k := 193) (by decide) rfl (by decide) F hx3 hr dL_drained_9 (by unfold vp_in; decide) (fun H locs z3 ez3 hr => ?_)
    subst ez3
    refine lv_goto (tgt := 17) F.1 F.2.1 dL_drained_10 (by decide) ?_
    refine lv_iconst (v := (0 : Int32)) F.1 F.2.1 dL_drained_17 (by decide) ?_
    obtain ⟨rfl, rfl⟩ := zret h
    exact zLe_i F hret hlocks dL_drained_18 hr (Nat.le_of_ble_eq_true rfl) (Nat.le_of_ble_eq_true rfl)
  · subst e0
    replace h : (if k9 = 1 then some ((1 : Int32), z1) else none) = some (k, z') := h
    by_cases k1 : k9 = 1
    · replace h := zi_t k1 h
      subst k1
      refine vx_catch F.2.2.2.1 [] _ _ htab (fun z hz => absurd hz List.not_mem_nil) (by decide) (by decide) (F.2.2.2.2.1 _ zq_865) (zLK_1 hLK) hq hv hcl ?_
      refine lv_astore (lv' := [(4, .ref q9), (0, .ref (B 11 x0)), (1, .int x1), (2, .int x2), (3, .ref (B 193 x3))]) F.1 F.2.1 dL_drained_13 hl (by decide) rfl (fun ls hl => ?_)
      refine lv_iconst (v := (1 : Int32)) F.1 F.2.1 dL_drained_15 (by decide) ?_
      obtain ⟨rfl, rfl⟩ := zret h
      exact zLe_i F hret hlocks dL_drained_16 hr (Nat.le_of_ble_eq_true rfl) (Nat.le_of_ble_eq_true rfl)
    · replace h := zi_f k1 h
      cases h
