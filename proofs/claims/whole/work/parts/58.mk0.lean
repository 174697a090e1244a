/-! the making of objects, class by class: names, contents, absorption -/
def zfl (w : St) (k o : Nat) (f : Nat → Int32) : St := (w.1, w.2.1, fun k' o' i => if k' = k ∧ o' = o then f i else w.2.2.1 k' o' i, w.2.2.2)
theorem zgI_fl (w : St) (k o : Nat) (f : Nat → Int32) (k' j' o' : Nat) : zgI (zfl w k o f) k' j' o' = zgI w k' j' o' := rfl
theorem zgR_fl (w : St) (k o : Nat) (f : Nat → Int32) (k' j' o' : Nat) : zgR (zfl w k o f) k' j' o' = zgR w k' j' o' := rfl
theorem zgA_fl (w : St) (k o : Nat) (f : Nat → Int32) (k' o' i : Nat) : zgA (zfl w k o f) k' o' i = if k' = k ∧ o' = o then f i else zgA w k' o' i := rfl
theorem zWf_fl {ids : List (Nat × Nat)} {w : St} (h : zWf ids w) {k o : Nat} {f : Nat → Int32} (hk : (zkA k).1 ≠ 0) : zWf ids (zfl w k o f) := by
  refine ⟨h.1, h.2.1, fun k' o' i hk' => ?_⟩
  rw [zgA_fl]
  by_cases c : k' = k ∧ o' = o
  · exact absurd (c.1 ▸ hk') hk
  · rw [if_neg c]
    exact h.2.2 k' o' i hk'
def zbx (o : Nat) : List (Nat × Nat) := [(1, o), (112, o), (113, o), (114, o), (115, o), (116, o * 4 + 0), (116, o * 4 + 1), (116, o * 4 + 2), (116, o * 4 + 3), (117, o), (118, o)]
theorem zarrs_1 : zarrs 1 = [112, 113, 114, 115, 117, 118, 119] := by decide +kernel
theorem zClN_box {o : Nat} {mid post : List (Nat × Nat)} (hm : zClN mid) (hp : zClN post) : zClN (zbx o ++ (mid ++ ((119, o) :: post))) := by
  have hmem : ∀ q, q ∈ zbx o → q ∈ zbx o ++ (mid ++ ((119, o) :: post)) := fun q h => List.mem_append_left _ h
  have h119 : (119, o) ∈ zbx o ++ (mid ++ ((119, o) :: post)) := List.mem_append_right _ (List.mem_append_right _ List.mem_cons_self)
  intro k o' h
  rcases List.mem_append.mp h with h | h
  · have hb : ∀ a, a ∈ zarrs 1 → (a, o) ∈ zbx o ++ (mid ++ ((119, o) :: post)) := by
      intro a ha
      rw [zarrs_1] at ha
      simp only [List.mem_cons, List.not_mem_nil, or_false] at ha
      rcases ha with rfl | rfl | rfl | rfl | rfl | rfl | rfl
      · exact hmem _ (List.mem_of_getElem? (i := 1) rfl)
      · exact hmem _ (List.mem_of_getElem? (i := 2) rfl)
      · exact hmem _ (List.mem_of_getElem? (i := 3) rfl)
      · exact hmem _ (List.mem_of_getElem? (i := 4) rfl)
      · exact hmem _ (List.mem_of_getElem? (i := 9) rfl)
      · exact hmem _ (List.mem_of_getElem? (i := 10) rfl)
      · exact h119
    have hr : ∀ r, r < 4 → (116, o * 4 + r) ∈ zbx o ++ (mid ++ ((119, o) :: post)) := by
      intro r hr
      match r, hr with
      | 0, _ => exact hmem _ (List.mem_of_getElem? (i := 5) rfl)
      | 1, _ => exact hmem _ (List.mem_of_getElem? (i := 6) rfl)
      | 2, _ => exact hmem _ (List.mem_of_getElem? (i := 7) rfl)
      | 3, _ => exact hmem _ (List.mem_of_getElem? (i := 8) rfl)
      | n + 4, hn => omega
    have hk : (k = 1 ∧ o' = o) ∨ (k = 115 ∧ o' = o) ∨ (100 ≤ k ∧ (zkA k).1 ≠ 5) := by
      simp only [zbx, List.mem_cons, List.not_mem_nil, or_false, Prod.mk.injEq] at h
      rcases h with ⟨rfl, rfl⟩ | ⟨rfl, rfl⟩ | ⟨rfl, rfl⟩ | ⟨rfl, rfl⟩ | ⟨rfl, rfl⟩ | ⟨rfl, rfl⟩ | ⟨rfl, rfl⟩ | ⟨rfl, rfl⟩ | ⟨rfl, rfl⟩ | ⟨rfl, rfl⟩ | ⟨rfl, rfl⟩ <;> first | exact Or.inl ⟨rfl, rfl⟩ | exact Or.inr (Or.inl ⟨rfl, rfl⟩) | exact Or.inr (Or.inr (by decide))
    rcases hk with ⟨rfl, rfl⟩ | ⟨rfl, rfl⟩ | ⟨h1, h2⟩
    · exact ⟨hb, fun h5 => absurd h5 (by decide)⟩
    · exact ⟨fun a ha => (by rw [zarrs_nil (by decide)] at ha; cases ha), fun _ r hr' => hr r hr'⟩
    · exact ⟨fun a ha => (by rw [zarrs_nil (by omega)] at ha; cases ha), fun h5 => absurd h5 h2⟩
  · rcases List.mem_append.mp h with h | h
    · exact ⟨fun a ha => List.mem_append_right _ (List.mem_append_left _ ((hm k o' h).1 a ha)), fun h5 r hr => List.mem_append_right _ (List.mem_append_left _ ((hm k o' h).2 h5 r hr))⟩
    · rcases List.mem_cons.mp h with e | h
      · cases e
        exact ⟨fun a ha => (by rw [zarrs_nil (by decide)] at ha; cases ha), fun h5 => absurd h5 (by decide)⟩
      · exact ⟨fun a ha => List.mem_append_right _ (List.mem_append_right _ (List.mem_cons_of_mem _ ((hp k o' h).1 a ha))), fun h5 r hr => List.mem_append_right _ (List.mem_append_right _ (List.mem_cons_of_mem _ ((hp k o' h).2 h5 r hr)))⟩
def znmX7 (o : Nat) : List (Nat × Nat) := [(7, o), (125, o)]
def zmwX7 (o : Nat)  : St := zz0
set_option maxHeartbeats 40000000 in
set_option maxRecDepth 100000 in
theorem zmkX7 {D : va_G} {cy : Nat → ClassId} {B : Nat → Nat → Nat} {ids : List (Nat × Nat)} {A : Nat → Prop} {H0 : Heap} {z : St} {H : Heap} {locs : List Loc} (hst : zSt B ids) (h9 : zI9 ids) (o : Nat)  (hfr : zfr (znmX7 o) ids) {h0 q1 : Nat} (hr : zRC D cy B ids A H0 z [(h0, .inr (7, [.int 0, .int 0, .int 0, .int 0, .int 0, .int 0, .int 0, .int 0, .ref q1, .int 0, .int 0, .int 0, .int 0, .int 0, .null, .int 0, .int 0, .int 0, .int 0, .int 0])), (q1, .inl (cy 0, (1480, .inl (fun _ => 0))))] H locs) : ∃ B1 : Nat → Nat → Nat, (∀ k o, (k, o) ∈ ids → B1 k o = B k o) ∧ B1 7 o = h0 ∧ zSt B1 (ids ++ znmX7 o) ∧ (∀ z2, va_D A (zw cy B1 (ids ++ znmX7 o) z2)) ∧ zI9 (ids ++ znmX7 o) ∧ zRep D cy B1 (ids ++ znmX7 o) A H0 (zmg (znmX7 o) (zmwX7 o) z) H locs := by
  obtain ⟨B1, hB, hm⟩ := zBx B ids (znmX7 o) [h0, q1] rfl hfr.1 hfr.2
  simp only [znmX7, List.map_cons, List.map_nil, List.cons.injEq] at hm
  obtain ⟨e0, e1, -⟩ := hm
  have hcl : zClN (znmX7 o) := zClN_ob (k := 7) (o := o) (by decide)
  have hw : zWf (ids ++ znmX7 o) (zmwX7 o) := (zWf_z _)
  have m0 : (7, o) ∈ znmX7 o := List.mem_of_getElem? (i := 0) rfl
  have m1 : (125, o) ∈ znmX7 o := List.mem_of_getElem? (i := 1) rfl
  have wi7 : ∀ j1 o1, zgI (zmwX7 o) 7 j1 o1 = 0 := fun _ _ => rfl
  have wr7_14 : ∀ o1, zgR (zmwX7 o) 7 14 o1 = none := fun _ => rfl
  have wa125 : ∀ o1 i1, zgA (zmwX7 o) 125 o1 i1 = 0 := fun _ _ => rfl
  obtain ⟨s1, s2, s3⟩ := zabs (w := (zmwX7 o)) hst h9 hr hB hfr.1 hfr.2 hcl hw (by
    refine zal2_cons (zceO (k := 7) (o := o) (by decide) e0 (zcons (zfvI m0 rfl (wi7 _ _)) (zcons (zfvI m0 rfl (wi7 _ _)) (zcons (zfvI m0 rfl (wi7 _ _)) (zcons (zfvI m0 rfl (wi7 _ _)) (zcons (zfvI m0 rfl (wi7 _ _)) (zcons (zfvI m0 rfl (wi7 _ _)) (zcons (zfvI m0 rfl (wi7 _ _)) (zcons (zfvI m0 rfl (wi7 _ _)) (zcons (zfvA rfl e1) (zcons (zfvI m0 rfl (wi7 _ _)) (zcons (zfvI m0 rfl (wi7 _ _)) (zcons (zfvI m0 rfl (wi7 _ _)) (zcons (zfvI m0 rfl (wi7 _ _)) (zcons (zfvI m0 rfl (wi7 _ _)) (zcons (zfvN m0 rfl (wr7_14 _)) (zcons (zfvI m0 rfl (wi7 _ _)) (zcons (zfvI m0 rfl (wi7 _ _)) (zcons (zfvI m0 rfl (wi7 _ _)) (zcons (zfvI m0 rfl (wi7 _ _)) (zcons (zfvI m0 rfl (wi7 _ _)) (rfl)))))))))))))))))))))) ?_
    refine zal2_cons (zceI (k := 125) (o := o) (c := 0) (L := 1480) (tg := 0) (by decide) (by decide) rfl (by decide) e1 m1 (fun i => wa125 _ i)) ?_
    exact zal2_nil)
  exact ⟨B1, hB, e0, s1, s2, zI9_app h9 (fun o h => by simp [znmX7] at h), s3⟩
def znmX5 (o : Nat) : List (Nat × Nat) := [(5, o), (122, o), (123, o)]
def zmwX5 (o : Nat) (x1 : Int32) : St := (zsI (zsI zz0 5 0 o x1) 5 3 o (1 : Int32))
set_option maxHeartbeats 40000000 in
set_option maxRecDepth 100000 in
theorem zmkX5 {D : va_G} {cy : Nat → ClassId} {B : Nat → Nat → Nat} {ids : List (Nat × Nat)} {A : Nat → Prop} {H0 : Heap} {z : St} {H : Heap} {locs : List Loc} (hst : zSt B ids) (h9 : zI9 ids) (o : Nat) (x1 : Int32) (hfr : zfr (znmX5 o) ids) {h0 q1 q2 : Nat} (hr : zRC D cy B ids A H0 z [(h0, .inr (5, [.int x1, .int 0, .int 0, .int (1 : Int32), .ref q1, .int 0, .int 0, .ref q2, .int 0, .int 0, .int 0])), (q1, .inl (cy 0, (64, .inl (fun _ => 0)))), (q2, .inl (cy 5, (8, .inr (.inr (.inr (.inr (fun _ => none)))))))] H locs) : ∃ B1 : Nat → Nat → Nat, (∀ k o, (k, o) ∈ ids → B1 k o = B k o) ∧ B1 5 o = h0 ∧ zSt B1 (ids ++ znmX5 o) ∧ (∀ z2, va_D A (zw cy B1 (ids ++ znmX5 o) z2)) ∧ zI9 (ids ++ znmX5 o) ∧ zRep D cy B1 (ids ++ znmX5 o) A H0 (zmg (znmX5 o) (zmwX5 o x1) z) H locs := by
  obtain ⟨B1, hB, hm⟩ := zBx B ids (znmX5 o) [h0, q1, q2] rfl hfr.1 hfr.2
  simp only [znmX5, List.map_cons, List.map_nil, List.cons.injEq] at hm
  obtain ⟨e0, e1, e2, -⟩ := hm
  have hcl : zClN (znmX5 o) := zClN_ob (k := 5) (o := o) (by decide)
  have hw : zWf (ids ++ znmX5 o) (zmwX5 o x1) := (zWf_sI (zWf_sI (zWf_z _) _ _ _ _) _ _ _ _)
  have m0 : (5, o) ∈ znmX5 o := List.mem_of_getElem? (i := 0) rfl
  have m1 : (122, o) ∈ znmX5 o := List.mem_of_getElem? (i := 1) rfl
  have m2 : (123, o) ∈ znmX5 o := List.mem_of_getElem? (i := 2) rfl
  have wi5_10 : ∀ o1, zgI (zmwX5 o x1) 5 10 o1 = 0 := fun _ => rfl
  have wi5_9 : ∀ o1, zgI (zmwX5 o x1) 5 9 o1 = 0 := fun _ => rfl
  have wi5_8 : ∀ o1, zgI (zmwX5 o x1) 5 8 o1 = 0 := fun _ => rfl
  have wi5_6 : ∀ o1, zgI (zmwX5 o x1) 5 6 o1 = 0 := fun _ => rfl
  have wi5_5 : ∀ o1, zgI (zmwX5 o x1) 5 5 o1 = 0 := fun _ => rfl
  have wi5_2 : ∀ o1, zgI (zmwX5 o x1) 5 2 o1 = 0 := fun _ => rfl
  have wi5_1 : ∀ o1, zgI (zmwX5 o x1) 5 1 o1 = 0 := fun _ => rfl
  have wa122 : ∀ o1 i1, zgA (zmwX5 o x1) 122 o1 i1 = 0 := fun _ _ => rfl
  obtain ⟨s1, s2, s3⟩ := zabs (w := (zmwX5 o x1)) hst h9 hr hB hfr.1 hfr.2 hcl hw (by
    refine zal2_cons (zceO (k := 5) (o := o) (by decide) e0 (zcons (zfvI m0 rfl (by simp [zmwX5, zgI_sI, zgI_sR, zgI_sQ, zgR_sI, zgR_sR, zgR_sQ, zgI_fl, zgR_fl])) (zcons (zfvI m0 rfl (wi5_1 _)) (zcons (zfvI m0 rfl (wi5_2 _)) (zcons (zfvI m0 rfl (by simp [zmwX5, zgI_sI, zgI_sR, zgI_sQ, zgR_sI, zgR_sR, zgR_sQ, zgI_fl, zgR_fl])) (zcons (zfvA rfl e1) (zcons (zfvI m0 rfl (wi5_5 _)) (zcons (zfvI m0 rfl (wi5_6 _)) (zcons (zfvA rfl e2) (zcons (zfvI m0 rfl (wi5_8 _)) (zcons (zfvI m0 rfl (wi5_9 _)) (zcons (zfvI m0 rfl (wi5_10 _)) (rfl))))))))))))) ?_
    refine zal2_cons (zceI (k := 122) (o := o) (c := 0) (L := 64) (tg := 0) (by decide) (by decide) rfl (by decide) e1 m1 (fun i => wa122 _ i)) ?_
    refine zal2_cons (zceQ (k := 123) (o := o) (L := 8) (L' := 8) (tg := 8) (by decide) rfl (zlen_d (by decide)) e2 m2 (fun i => rfl)) ?_
    exact zal2_nil)
  exact ⟨B1, hB, e0, s1, s2, zI9_app h9 (fun o h => by simp [znmX5] at h), s3⟩
def znmX12 (o : Nat) : List (Nat × Nat) := [(12, o), (147, o), (148, o), (149, o), (150, o), (151, o), (152, o), (153, o), (154, o), (155, o), (156, o), (157, o), (158, o)]
def zmwX12 (o : Nat)  : St := (zsI (zsI (zsI zz0 12 18 o (-1000000 : Int32)) 12 23 o (1 : Int32)) 12 24 o (1 : Int32))
set_option maxHeartbeats 40000000 in
set_option maxRecDepth 100000 in
theorem zmkX12 {D : va_G} {cy : Nat → ClassId} {B : Nat → Nat → Nat} {ids : List (Nat × Nat)} {A : Nat → Prop} {H0 : Heap} {z : St} {H : Heap} {locs : List Loc} (hst : zSt B ids) (h9 : zI9 ids) (o : Nat)  (hfr : zfr (znmX12 o) ids) {h0 q1 q2 q3 q4 q5 q6 q7 q8 q9 q10 q11 q12 : Nat} (hr : zRC D cy B ids A H0 z [(h0, .inr (12, [.int 0, .int 0, .ref q1, .int 0, .int 0, .int 0, .int 0, .int 0, .int 0, .int 0, .ref q2, .int 0, .ref q3, .int 0, .ref q4, .ref q5, .int 0, .int 0, .int (-1000000 : Int32), .ref q6, .ref q7, .ref q8, .int 0, .int (1 : Int32), .int (1 : Int32), .ref q9, .ref q10, .ref q11, .ref q12, .int 0])), (q1, .inl (cy 11, (6, .inr (.inr (.inr (.inr (fun _ => none))))))), (q2, .inl (cy 12, (4, .inr (.inr (.inr (.inr (fun _ => none))))))), (q3, .inl (cy 13, (16, .inr (.inr (.inr (.inr (fun _ => none))))))), (q4, .inl (cy 1, (16, .inl (fun _ => 0)))), (q5, .inl (cy 1, (16, .inl (fun _ => 0)))), (q6, .inl (cy 1, (64, .inl (fun _ => 0)))), (q7, .inl (cy 1, (64, .inl (fun _ => 0)))), (q8, .inl (cy 1, (64, .inl (fun _ => 0)))), (q9, .inl (cy 1, (24, .inl (fun _ => 0)))), (q10, .inl (cy 1, (24, .inl (fun _ => 0)))), (q11, .inl (cy 1, (24, .inl (fun _ => 0)))), (q12, .inl (cy 14, (6, .inr (.inr (.inr (.inr (fun _ => none)))))))] H locs) : ∃ B1 : Nat → Nat → Nat, (∀ k o, (k, o) ∈ ids → B1 k o = B k o) ∧ B1 12 o = h0 ∧ zSt B1 (ids ++ znmX12 o) ∧ (∀ z2, va_D A (zw cy B1 (ids ++ znmX12 o) z2)) ∧ zI9 (ids ++ znmX12 o) ∧ zRep D cy B1 (ids ++ znmX12 o) A H0 (zmg (znmX12 o) (zmwX12 o) z) H locs := by
  obtain ⟨B1, hB, hm⟩ := zBx B ids (znmX12 o) [h0, q1, q2, q3, q4, q5, q6, q7, q8, q9, q10, q11, q12] rfl hfr.1 hfr.2
  simp only [znmX12, List.map_cons, List.map_nil, List.cons.injEq] at hm
  obtain ⟨e0, e1, e2, e3, e4, e5, e6, e7, e8, e9, e10, e11, e12, -⟩ := hm
  have hcl : zClN (znmX12 o) := zClN_ob (k := 12) (o := o) (by decide)
  have hw : zWf (ids ++ znmX12 o) (zmwX12 o) := (zWf_sI (zWf_sI (zWf_sI (zWf_z _) _ _ _ _) _ _ _ _) _ _ _ _)
  have m0 : (12, o) ∈ znmX12 o := List.mem_of_getElem? (i := 0) rfl
  have m1 : (147, o) ∈ znmX12 o := List.mem_of_getElem? (i := 1) rfl
  have m2 : (148, o) ∈ znmX12 o := List.mem_of_getElem? (i := 2) rfl
  have m3 : (149, o) ∈ znmX12 o := List.mem_of_getElem? (i := 3) rfl
  have m4 : (150, o) ∈ znmX12 o := List.mem_of_getElem? (i := 4) rfl
  have m5 : (151, o) ∈ znmX12 o := List.mem_of_getElem? (i := 5) rfl
  have m6 : (152, o) ∈ znmX12 o := List.mem_of_getElem? (i := 6) rfl
  have m7 : (153, o) ∈ znmX12 o := List.mem_of_getElem? (i := 7) rfl
  have m8 : (154, o) ∈ znmX12 o := List.mem_of_getElem? (i := 8) rfl
  have m9 : (155, o) ∈ znmX12 o := List.mem_of_getElem? (i := 9) rfl
  have m10 : (156, o) ∈ znmX12 o := List.mem_of_getElem? (i := 10) rfl
  have m11 : (157, o) ∈ znmX12 o := List.mem_of_getElem? (i := 11) rfl
  have m12 : (158, o) ∈ znmX12 o := List.mem_of_getElem? (i := 12) rfl
  have wi12_29 : ∀ o1, zgI (zmwX12 o) 12 29 o1 = 0 := fun _ => rfl
  have wi12_22 : ∀ o1, zgI (zmwX12 o) 12 22 o1 = 0 := fun _ => rfl
  have wi12_17 : ∀ o1, zgI (zmwX12 o) 12 17 o1 = 0 := fun _ => rfl
  have wi12_16 : ∀ o1, zgI (zmwX12 o) 12 16 o1 = 0 := fun _ => rfl
  have wi12_13 : ∀ o1, zgI (zmwX12 o) 12 13 o1 = 0 := fun _ => rfl
  have wi12_11 : ∀ o1, zgI (zmwX12 o) 12 11 o1 = 0 := fun _ => rfl
  have wi12_9 : ∀ o1, zgI (zmwX12 o) 12 9 o1 = 0 := fun _ => rfl
  have wi12_8 : ∀ o1, zgI (zmwX12 o) 12 8 o1 = 0 := fun _ => rfl
  have wi12_7 : ∀ o1, zgI (zmwX12 o) 12 7 o1 = 0 := fun _ => rfl
  have wi12_6 : ∀ o1, zgI (zmwX12 o) 12 6 o1 = 0 := fun _ => rfl
  have wi12_5 : ∀ o1, zgI (zmwX12 o) 12 5 o1 = 0 := fun _ => rfl
  have wi12_4 : ∀ o1, zgI (zmwX12 o) 12 4 o1 = 0 := fun _ => rfl
  have wi12_3 : ∀ o1, zgI (zmwX12 o) 12 3 o1 = 0 := fun _ => rfl
  have wi12_1 : ∀ o1, zgI (zmwX12 o) 12 1 o1 = 0 := fun _ => rfl
  have wi12_0 : ∀ o1, zgI (zmwX12 o) 12 0 o1 = 0 := fun _ => rfl
  have wa150 : ∀ o1 i1, zgA (zmwX12 o) 150 o1 i1 = 0 := fun _ _ => rfl
  have wa151 : ∀ o1 i1, zgA (zmwX12 o) 151 o1 i1 = 0 := fun _ _ => rfl
  have wa152 : ∀ o1 i1, zgA (zmwX12 o) 152 o1 i1 = 0 := fun _ _ => rfl
  have wa153 : ∀ o1 i1, zgA (zmwX12 o) 153 o1 i1 = 0 := fun _ _ => rfl
  have wa154 : ∀ o1 i1, zgA (zmwX12 o) 154 o1 i1 = 0 := fun _ _ => rfl
  have wa155 : ∀ o1 i1, zgA (zmwX12 o) 155 o1 i1 = 0 := fun _ _ => rfl
  have wa156 : ∀ o1 i1, zgA (zmwX12 o) 156 o1 i1 = 0 := fun _ _ => rfl
  have wa157 : ∀ o1 i1, zgA (zmwX12 o) 157 o1 i1 = 0 := fun _ _ => rfl
  obtain ⟨s1, s2, s3⟩ := zabs (w := (zmwX12 o)) hst h9 hr hB hfr.1 hfr.2 hcl hw (by
    refine zal2_cons (zceO (k := 12) (o := o) (by decide) e0 (zcons (zfvI m0 rfl (wi12_0 _)) (zcons (zfvI m0 rfl (wi12_1 _)) (zcons (zfvA rfl e1) (zcons (zfvI m0 rfl (wi12_3 _)) (zcons (zfvI m0 rfl (wi12_4 _)) (zcons (zfvI m0 rfl (wi12_5 _)) (zcons (zfvI m0 rfl (wi12_6 _)) (zcons (zfvI m0 rfl (wi12_7 _)) (zcons (zfvI m0 rfl (wi12_8 _)) (zcons (zfvI m0 rfl (wi12_9 _)) (zcons (zfvA rfl e2) (zcons (zfvI m0 rfl (wi12_11 _)) (zcons (zfvA rfl e3) (zcons (zfvI m0 rfl (wi12_13 _)) (zcons (zfvA rfl e4) (zcons (zfvA rfl e5) (zcons (zfvI m0 rfl (wi12_16 _)) (zcons (zfvI m0 rfl (wi12_17 _)) (zcons (zfvI m0 rfl (by simp [zmwX12, zgI_sI, zgI_sR, zgI_sQ, zgR_sI, zgR_sR, zgR_sQ, zgI_fl, zgR_fl])) (zcons (zfvA rfl e6) (zcons (zfvA rfl e7) (zcons (zfvA rfl e8) (zcons (zfvI m0 rfl (wi12_22 _)) (zcons (zfvI m0 rfl (by simp [zmwX12, zgI_sI, zgI_sR, zgI_sQ, zgR_sI, zgR_sR, zgR_sQ, zgI_fl, zgR_fl])) (zcons (zfvI m0 rfl (by simp [zmwX12, zgI_sI, zgI_sR, zgI_sQ, zgR_sI, zgR_sR, zgR_sQ, zgI_fl, zgR_fl])) (zcons (zfvA rfl e9) (zcons (zfvA rfl e10) (zcons (zfvA rfl e11) (zcons (zfvA rfl e12) (zcons (zfvI m0 rfl (wi12_29 _)) (rfl)))))))))))))))))))))))))))))))) ?_
    refine zal2_cons (zceQ (k := 147) (o := o) (L := 6) (L' := 6) (tg := 18) (by decide) rfl (zlen_d (by decide)) e1 m1 (fun i => rfl)) ?_
    refine zal2_cons (zceQ (k := 148) (o := o) (L := 4) (L' := 4) (tg := 17) (by decide) rfl (zlen_d (by decide)) e2 m2 (fun i => rfl)) ?_
    refine zal2_cons (zceQ (k := 149) (o := o) (L := 16) (L' := 16) (tg := 15) (by decide) rfl (zlen_d (by decide)) e3 m3 (fun i => rfl)) ?_
    refine zal2_cons (zceI (k := 150) (o := o) (c := 1) (L := 16) (tg := 0) (by decide) (by decide) rfl (by decide) e4 m4 (fun i => wa150 _ i)) ?_
    refine zal2_cons (zceI (k := 151) (o := o) (c := 1) (L := 16) (tg := 0) (by decide) (by decide) rfl (by decide) e5 m5 (fun i => wa151 _ i)) ?_
    refine zal2_cons (zceI (k := 152) (o := o) (c := 1) (L := 64) (tg := 0) (by decide) (by decide) rfl (by decide) e6 m6 (fun i => wa152 _ i)) ?_
    refine zal2_cons (zceI (k := 153) (o := o) (c := 1) (L := 64) (tg := 0) (by decide) (by decide) rfl (by decide) e7 m7 (fun i => wa153 _ i)) ?_
    refine zal2_cons (zceI (k := 154) (o := o) (c := 1) (L := 64) (tg := 0) (by decide) (by decide) rfl (by decide) e8 m8 (fun i => wa154 _ i)) ?_
    refine zal2_cons (zceI (k := 155) (o := o) (c := 1) (L := 24) (tg := 0) (by decide) (by decide) rfl (by decide) e9 m9 (fun i => wa155 _ i)) ?_
    refine zal2_cons (zceI (k := 156) (o := o) (c := 1) (L := 24) (tg := 0) (by decide) (by decide) rfl (by decide) e10 m10 (fun i => wa156 _ i)) ?_
    refine zal2_cons (zceI (k := 157) (o := o) (c := 1) (L := 24) (tg := 0) (by decide) (by decide) rfl (by decide) e11 m11 (fun i => wa157 _ i)) ?_
    refine zal2_cons (zceQ (k := 158) (o := o) (L := 6) (L' := 6) (tg := 13) (by decide) rfl (zlen_d (by decide)) e12 m12 (fun i => rfl)) ?_
    exact zal2_nil)
  exact ⟨B1, hB, e0, s1, s2, zI9_app h9 (fun o h => by simp [znmX12] at h), s3⟩
def znmX13 (o : Nat) : List (Nat × Nat) := [(13, o)]
def zmwX13 (o : Nat)  : St := (zsI (zsI zz0 13 5 o (-1 : Int32)) 13 9 o (1 : Int32))
set_option maxHeartbeats 40000000 in
set_option maxRecDepth 100000 in
theorem zmkX13 {D : va_G} {cy : Nat → ClassId} {B : Nat → Nat → Nat} {ids : List (Nat × Nat)} {A : Nat → Prop} {H0 : Heap} {z : St} {H : Heap} {locs : List Loc} (hst : zSt B ids) (h9 : zI9 ids) (o : Nat)  (hfr : zfr (znmX13 o) ids) {h0  : Nat} (hr : zRC D cy B ids A H0 z [(h0, .inr (13, [.int 0, .int 0, .int 0, .int 0, .null, .int (-1 : Int32), .int 0, .int 0, .int 0, .int (1 : Int32)]))] H locs) : ∃ B1 : Nat → Nat → Nat, (∀ k o, (k, o) ∈ ids → B1 k o = B k o) ∧ B1 13 o = h0 ∧ zSt B1 (ids ++ znmX13 o) ∧ (∀ z2, va_D A (zw cy B1 (ids ++ znmX13 o) z2)) ∧ zI9 (ids ++ znmX13 o) ∧ zRep D cy B1 (ids ++ znmX13 o) A H0 (zmg (znmX13 o) (zmwX13 o) z) H locs := by
  obtain ⟨B1, hB, hm⟩ := zBx B ids (znmX13 o) [h0] rfl hfr.1 hfr.2
  simp only [znmX13, List.map_cons, List.map_nil, List.cons.injEq] at hm
  obtain ⟨e0, -⟩ := hm
  have hcl : zClN (znmX13 o) := zClN_ob (k := 13) (o := o) (by decide)
  have hw : zWf (ids ++ znmX13 o) (zmwX13 o) := (zWf_sI (zWf_sI (zWf_z _) _ _ _ _) _ _ _ _)
  have m0 : (13, o) ∈ znmX13 o := List.mem_of_getElem? (i := 0) rfl
  have wi13_8 : ∀ o1, zgI (zmwX13 o) 13 8 o1 = 0 := fun _ => rfl
  have wi13_7 : ∀ o1, zgI (zmwX13 o) 13 7 o1 = 0 := fun _ => rfl
  have wi13_6 : ∀ o1, zgI (zmwX13 o) 13 6 o1 = 0 := fun _ => rfl
  have wr13_4 : ∀ o1, zgR (zmwX13 o) 13 4 o1 = none := fun _ => rfl
  have wi13_3 : ∀ o1, zgI (zmwX13 o) 13 3 o1 = 0 := fun _ => rfl
  have wi13_2 : ∀ o1, zgI (zmwX13 o) 13 2 o1 = 0 := fun _ => rfl
  have wi13_1 : ∀ o1, zgI (zmwX13 o) 13 1 o1 = 0 := fun _ => rfl
  have wi13_0 : ∀ o1, zgI (zmwX13 o) 13 0 o1 = 0 := fun _ => rfl
  obtain ⟨s1, s2, s3⟩ := zabs (w := (zmwX13 o)) hst h9 hr hB hfr.1 hfr.2 hcl hw (by
    refine zal2_cons (zceO (k := 13) (o := o) (by decide) e0 (zcons (zfvI m0 rfl (wi13_0 _)) (zcons (zfvI m0 rfl (wi13_1 _)) (zcons (zfvI m0 rfl (wi13_2 _)) (zcons (zfvI m0 rfl (wi13_3 _)) (zcons (zfvN m0 rfl (wr13_4 _)) (zcons (zfvI m0 rfl (by simp [zmwX13, zgI_sI, zgI_sR, zgI_sQ, zgR_sI, zgR_sR, zgR_sQ, zgI_fl, zgR_fl])) (zcons (zfvI m0 rfl (wi13_6 _)) (zcons (zfvI m0 rfl (wi13_7 _)) (zcons (zfvI m0 rfl (wi13_8 _)) (zcons (zfvI m0 rfl (by simp [zmwX13, zgI_sI, zgI_sR, zgI_sQ, zgR_sI, zgR_sR, zgR_sQ, zgI_fl, zgR_fl])) (rfl)))))))))))) ?_
    exact zal2_nil)
  exact ⟨B1, hB, e0, s1, s2, zI9_app h9 (fun o h => by simp [znmX13] at h), s3⟩
def znmX14 (o : Nat) : List (Nat × Nat) := [(14, o), (159, o), (160, o), (161, o)]
def zmwX14 (o : Nat)  : St := (zsI (zsI zz0 14 44 o (-1 : Int32)) 14 45 o (-1 : Int32))
set_option maxHeartbeats 40000000 in
set_option maxRecDepth 100000 in
theorem zmkX14 {D : va_G} {cy : Nat → ClassId} {B : Nat → Nat → Nat} {ids : List (Nat × Nat)} {A : Nat → Prop} {H0 : Heap} {z : St} {H : Heap} {locs : List Loc} (hst : zSt B ids) (h9 : zI9 ids) (o : Nat)  (hfr : zfr (znmX14 o) ids) {h0 q1 q2 q3 : Nat} (hr : zRC D cy B ids A H0 z [(h0, .inr (14, [.int 0, .int 0, .int 0, .int 0, .int 0, .int 0, .int 0, .int 0, .int 0, .int 0, .ref q1, .int 0, .int 0, .int 0, .int 0, .int 0, .int 0, .int 0, .int 0, .ref q2, .ref q3, .int 0, .int 0, .int 0, .int 0, .int 0, .int 0, .int 0, .int 0, .int 0, .int 0, .int 0, .int 0, .int 0, .int 0, .int 0, .int 0, .int 0, .int 0, .int 0, .int 0, .int 0, .int 0, .int 0, .int (-1 : Int32), .int (-1 : Int32), .int 0])), (q1, .inl (cy 0, (2048, .inl (fun _ => 0)))), (q2, .inl (cy 0, (2048, .inl (fun _ => 0)))), (q3, .inl (cy 3, (2048, .inl (fun _ => 0))))] H locs) : ∃ B1 : Nat → Nat → Nat, (∀ k o, (k, o) ∈ ids → B1 k o = B k o) ∧ B1 14 o = h0 ∧ zSt B1 (ids ++ znmX14 o) ∧ (∀ z2, va_D A (zw cy B1 (ids ++ znmX14 o) z2)) ∧ zI9 (ids ++ znmX14 o) ∧ zRep D cy B1 (ids ++ znmX14 o) A H0 (zmg (znmX14 o) (zmwX14 o) z) H locs := by
  obtain ⟨B1, hB, hm⟩ := zBx B ids (znmX14 o) [h0, q1, q2, q3] rfl hfr.1 hfr.2
  simp only [znmX14, List.map_cons, List.map_nil, List.cons.injEq] at hm
  obtain ⟨e0, e1, e2, e3, -⟩ := hm
  have hcl : zClN (znmX14 o) := zClN_ob (k := 14) (o := o) (by decide)
  have hw : zWf (ids ++ znmX14 o) (zmwX14 o) := (zWf_sI (zWf_sI (zWf_z _) _ _ _ _) _ _ _ _)
  have m0 : (14, o) ∈ znmX14 o := List.mem_of_getElem? (i := 0) rfl
  have m1 : (159, o) ∈ znmX14 o := List.mem_of_getElem? (i := 1) rfl
  have m2 : (160, o) ∈ znmX14 o := List.mem_of_getElem? (i := 2) rfl
  have m3 : (161, o) ∈ znmX14 o := List.mem_of_getElem? (i := 3) rfl
  have wi14_46 : ∀ o1, zgI (zmwX14 o) 14 46 o1 = 0 := fun _ => rfl
  have wi14_43 : ∀ o1, zgI (zmwX14 o) 14 43 o1 = 0 := fun _ => rfl
  have wi14_42 : ∀ o1, zgI (zmwX14 o) 14 42 o1 = 0 := fun _ => rfl
  have wi14_41 : ∀ o1, zgI (zmwX14 o) 14 41 o1 = 0 := fun _ => rfl
  have wi14_40 : ∀ o1, zgI (zmwX14 o) 14 40 o1 = 0 := fun _ => rfl
  have wi14_39 : ∀ o1, zgI (zmwX14 o) 14 39 o1 = 0 := fun _ => rfl
  have wi14_38 : ∀ o1, zgI (zmwX14 o) 14 38 o1 = 0 := fun _ => rfl
  have wi14_37 : ∀ o1, zgI (zmwX14 o) 14 37 o1 = 0 := fun _ => rfl
  have wi14_36 : ∀ o1, zgI (zmwX14 o) 14 36 o1 = 0 := fun _ => rfl
  have wi14_35 : ∀ o1, zgI (zmwX14 o) 14 35 o1 = 0 := fun _ => rfl
  have wi14_34 : ∀ o1, zgI (zmwX14 o) 14 34 o1 = 0 := fun _ => rfl
  have wi14_33 : ∀ o1, zgI (zmwX14 o) 14 33 o1 = 0 := fun _ => rfl
  have wi14_32 : ∀ o1, zgI (zmwX14 o) 14 32 o1 = 0 := fun _ => rfl
  have wi14_31 : ∀ o1, zgI (zmwX14 o) 14 31 o1 = 0 := fun _ => rfl
  have wi14_30 : ∀ o1, zgI (zmwX14 o) 14 30 o1 = 0 := fun _ => rfl
  have wi14_29 : ∀ o1, zgI (zmwX14 o) 14 29 o1 = 0 := fun _ => rfl
  have wi14_28 : ∀ o1, zgI (zmwX14 o) 14 28 o1 = 0 := fun _ => rfl
  have wi14_27 : ∀ o1, zgI (zmwX14 o) 14 27 o1 = 0 := fun _ => rfl
  have wi14_26 : ∀ o1, zgI (zmwX14 o) 14 26 o1 = 0 := fun _ => rfl
  have wi14_25 : ∀ o1, zgI (zmwX14 o) 14 25 o1 = 0 := fun _ => rfl
  have wi14_24 : ∀ o1, zgI (zmwX14 o) 14 24 o1 = 0 := fun _ => rfl
  have wi14_23 : ∀ o1, zgI (zmwX14 o) 14 23 o1 = 0 := fun _ => rfl
  have wi14_22 : ∀ o1, zgI (zmwX14 o) 14 22 o1 = 0 := fun _ => rfl
  have wi14_21 : ∀ o1, zgI (zmwX14 o) 14 21 o1 = 0 := fun _ => rfl
  have wi14_18 : ∀ o1, zgI (zmwX14 o) 14 18 o1 = 0 := fun _ => rfl
  have wi14_17 : ∀ o1, zgI (zmwX14 o) 14 17 o1 = 0 := fun _ => rfl
  have wi14_16 : ∀ o1, zgI (zmwX14 o) 14 16 o1 = 0 := fun _ => rfl
  have wi14_15 : ∀ o1, zgI (zmwX14 o) 14 15 o1 = 0 := fun _ => rfl
  have wi14_14 : ∀ o1, zgI (zmwX14 o) 14 14 o1 = 0 := fun _ => rfl
  have wi14_13 : ∀ o1, zgI (zmwX14 o) 14 13 o1 = 0 := fun _ => rfl
  have wi14_12 : ∀ o1, zgI (zmwX14 o) 14 12 o1 = 0 := fun _ => rfl
  have wi14_11 : ∀ o1, zgI (zmwX14 o) 14 11 o1 = 0 := fun _ => rfl
  have wi14_9 : ∀ o1, zgI (zmwX14 o) 14 9 o1 = 0 := fun _ => rfl
  have wi14_8 : ∀ o1, zgI (zmwX14 o) 14 8 o1 = 0 := fun _ => rfl
  have wi14_7 : ∀ o1, zgI (zmwX14 o) 14 7 o1 = 0 := fun _ => rfl
  have wi14_6 : ∀ o1, zgI (zmwX14 o) 14 6 o1 = 0 := fun _ => rfl
  have wi14_5 : ∀ o1, zgI (zmwX14 o) 14 5 o1 = 0 := fun _ => rfl
  have wi14_4 : ∀ o1, zgI (zmwX14 o) 14 4 o1 = 0 := fun _ => rfl
  have wi14_3 : ∀ o1, zgI (zmwX14 o) 14 3 o1 = 0 := fun _ => rfl
  have wi14_2 : ∀ o1, zgI (zmwX14 o) 14 2 o1 = 0 := fun _ => rfl
  have wi14_1 : ∀ o1, zgI (zmwX14 o) 14 1 o1 = 0 := fun _ => rfl
  have wi14_0 : ∀ o1, zgI (zmwX14 o) 14 0 o1 = 0 := fun _ => rfl
  have wa159 : ∀ o1 i1, zgA (zmwX14 o) 159 o1 i1 = 0 := fun _ _ => rfl
  have wa160 : ∀ o1 i1, zgA (zmwX14 o) 160 o1 i1 = 0 := fun _ _ => rfl
  have wa161 : ∀ o1 i1, zgA (zmwX14 o) 161 o1 i1 = 0 := fun _ _ => rfl
  obtain ⟨s1, s2, s3⟩ := zabs (w := (zmwX14 o)) hst h9 hr hB hfr.1 hfr.2 hcl hw (by
    refine zal2_cons (zceO (k := 14) (o := o) (by decide) e0 (zcons (zfvI m0 rfl (wi14_0 _)) (zcons (zfvI m0 rfl (wi14_1 _)) (zcons (zfvI m0 rfl (wi14_2 _)) (zcons (zfvI m0 rfl (wi14_3 _)) (zcons (zfvI m0 rfl (wi14_4 _)) (zcons (zfvI m0 rfl (wi14_5 _)) (zcons (zfvI m0 rfl (wi14_6 _)) (zcons (zfvI m0 rfl (wi14_7 _)) (zcons (zfvI m0 rfl (wi14_8 _)) (zcons (zfvI m0 rfl (wi14_9 _)) (zcons (zfvA rfl e1) (zcons (zfvI m0 rfl (wi14_11 _)) (zcons (zfvI m0 rfl (wi14_12 _)) (zcons (zfvI m0 rfl (wi14_13 _)) (zcons (zfvI m0 rfl (wi14_14 _)) (zcons (zfvI m0 rfl (wi14_15 _)) (zcons (zfvI m0 rfl (wi14_16 _)) (zcons (zfvI m0 rfl (wi14_17 _)) (zcons (zfvI m0 rfl (wi14_18 _)) (zcons (zfvA rfl e2) (zcons (zfvA rfl e3) (zcons (zfvI m0 rfl (wi14_21 _)) (zcons (zfvI m0 rfl (wi14_22 _)) (zcons (zfvI m0 rfl (wi14_23 _)) (zcons (zfvI m0 rfl (wi14_24 _)) (zcons (zfvI m0 rfl (wi14_25 _)) (zcons (zfvI m0 rfl (wi14_26 _)) (zcons (zfvI m0 rfl (wi14_27 _)) (zcons (zfvI m0 rfl (wi14_28 _)) (zcons (zfvI m0 rfl (wi14_29 _)) (zcons (zfvI m0 rfl (wi14_30 _)) (zcons (zfvI m0 rfl (wi14_31 _)) (zcons (zfvI m0 rfl (wi14_32 _)) (zcons (zfvI m0 rfl (wi14_33 _)) (zcons (zfvI m0 rfl (wi14_34 _)) (zcons (zfvI m0 rfl (wi14_35 _)) (zcons (zfvI m0 rfl (wi14_36 _)) (zcons (zfvI m0 rfl (wi14_37 _)) (zcons (zfvI m0 rfl (wi14_38 _)) (zcons (zfvI m0 rfl (wi14_39 _)) (zcons (zfvI m0 rfl (wi14_40 _)) (zcons (zfvI m0 rfl (wi14_41 _)) (zcons (zfvI m0 rfl (wi14_42 _)) (zcons (zfvI m0 rfl (wi14_43 _)) (zcons (zfvI m0 rfl (by simp [zmwX14, zgI_sI, zgI_sR, zgI_sQ, zgR_sI, zgR_sR, zgR_sQ, zgI_fl, zgR_fl])) (zcons (zfvI m0 rfl (by simp [zmwX14, zgI_sI, zgI_sR, zgI_sQ, zgR_sI, zgR_sR, zgR_sQ, zgI_fl, zgR_fl])) (zcons (zfvI m0 rfl (wi14_46 _)) (rfl))))))))))))))))))))))))))))))))))))))))))))))))) ?_
    refine zal2_cons (zceI (k := 159) (o := o) (c := 0) (L := 2048) (tg := 0) (by decide) (by decide) rfl (by decide) e1 m1 (fun i => wa159 _ i)) ?_
    refine zal2_cons (zceI (k := 160) (o := o) (c := 0) (L := 2048) (tg := 0) (by decide) (by decide) rfl (by decide) e2 m2 (fun i => wa160 _ i)) ?_
    refine zal2_cons (zceI (k := 161) (o := o) (c := 3) (L := 2048) (tg := 0) (by decide) (by decide) rfl (by decide) e3 m3 (fun i => wa161 _ i)) ?_
    exact zal2_nil)
  exact ⟨B1, hB, e0, s1, s2, zI9_app h9 (fun o h => by simp [znmX14] at h), s3⟩
def znmX15 (o : Nat) : List (Nat × Nat) := [(15, o), (162, o), (163, o)]
def zmwX15 (o : Nat)  : St := zz0
set_option maxHeartbeats 40000000 in
set_option maxRecDepth 100000 in
theorem zmkX15 {D : va_G} {cy : Nat → ClassId} {B : Nat → Nat → Nat} {ids : List (Nat × Nat)} {A : Nat → Prop} {H0 : Heap} {z : St} {H : Heap} {locs : List Loc} (hst : zSt B ids) (h9 : zI9 ids) (o : Nat)  (hfr : zfr (znmX15 o) ids) {h0 q1 q2 : Nat} (hr : zRC D cy B ids A H0 z [(h0, .inr (15, [.int 0, .int 0, .int 0, .int 0, .ref q1, .ref q2])), (q1, .inl (cy 3, (16, .inl (fun _ => 0)))), (q2, .inl (cy 1, (16, .inl (fun _ => 0))))] H locs) : ∃ B1 : Nat → Nat → Nat, (∀ k o, (k, o) ∈ ids → B1 k o = B k o) ∧ B1 15 o = h0 ∧ zSt B1 (ids ++ znmX15 o) ∧ (∀ z2, va_D A (zw cy B1 (ids ++ znmX15 o) z2)) ∧ zI9 (ids ++ znmX15 o) ∧ zRep D cy B1 (ids ++ znmX15 o) A H0 (zmg (znmX15 o) (zmwX15 o) z) H locs := by
  obtain ⟨B1, hB, hm⟩ := zBx B ids (znmX15 o) [h0, q1, q2] rfl hfr.1 hfr.2
  simp only [znmX15, List.map_cons, List.map_nil, List.cons.injEq] at hm
  obtain ⟨e0, e1, e2, -⟩ := hm
  have hcl : zClN (znmX15 o) := zClN_ob (k := 15) (o := o) (by decide)
  have hw : zWf (ids ++ znmX15 o) (zmwX15 o) := (zWf_z _)
  have m0 : (15, o) ∈ znmX15 o := List.mem_of_getElem? (i := 0) rfl
  have m1 : (162, o) ∈ znmX15 o := List.mem_of_getElem? (i := 1) rfl
  have m2 : (163, o) ∈ znmX15 o := List.mem_of_getElem? (i := 2) rfl
  have wi15 : ∀ j1 o1, zgI (zmwX15 o) 15 j1 o1 = 0 := fun _ _ => rfl
  have wa162 : ∀ o1 i1, zgA (zmwX15 o) 162 o1 i1 = 0 := fun _ _ => rfl
  have wa163 : ∀ o1 i1, zgA (zmwX15 o) 163 o1 i1 = 0 := fun _ _ => rfl
  obtain ⟨s1, s2, s3⟩ := zabs (w := (zmwX15 o)) hst h9 hr hB hfr.1 hfr.2 hcl hw (by
    refine zal2_cons (zceO (k := 15) (o := o) (by decide) e0 (zcons (zfvI m0 rfl (wi15 _ _)) (zcons (zfvI m0 rfl (wi15 _ _)) (zcons (zfvI m0 rfl (wi15 _ _)) (zcons (zfvI m0 rfl (wi15 _ _)) (zcons (zfvA rfl e1) (zcons (zfvA rfl e2) (rfl)))))))) ?_
    refine zal2_cons (zceI (k := 162) (o := o) (c := 3) (L := 16) (tg := 0) (by decide) (by decide) rfl (by decide) e1 m1 (fun i => wa162 _ i)) ?_
    refine zal2_cons (zceI (k := 163) (o := o) (c := 1) (L := 16) (tg := 0) (by decide) (by decide) rfl (by decide) e2 m2 (fun i => wa163 _ i)) ?_
    exact zal2_nil)
  exact ⟨B1, hB, e0, s1, s2, zI9_app h9 (fun o h => by simp [znmX15] at h), s3⟩
def znmX16 (o : Nat) : List (Nat × Nat) := [(16, o), (164, o), (165, o)]
def zmwX16 (o : Nat)  : St := (zsI zz0 16 3 o (1 : Int32))
set_option maxHeartbeats 40000000 in
set_option maxRecDepth 100000 in
theorem zmkX16 {D : va_G} {cy : Nat → ClassId} {B : Nat → Nat → Nat} {ids : List (Nat × Nat)} {A : Nat → Prop} {H0 : Heap} {z : St} {H : Heap} {locs : List Loc} (hst : zSt B ids) (h9 : zI9 ids) (o : Nat)  (hfr : zfr (znmX16 o) ids) {h0 q1 q2 : Nat} (hr : zRC D cy B ids A H0 z [(h0, .inr (16, [.int 0, .int 0, .int 0, .int (1 : Int32), .ref q1, .int 0, .ref q2, .int 0, .int 0, .int 0])), (q1, .inl (cy 11, (8, .inr (.inr (.inr (.inr (fun _ => none))))))), (q2, .inl (cy 1, (64, .inl (fun _ => 0))))] H locs) : ∃ B1 : Nat → Nat → Nat, (∀ k o, (k, o) ∈ ids → B1 k o = B k o) ∧ B1 16 o = h0 ∧ zSt B1 (ids ++ znmX16 o) ∧ (∀ z2, va_D A (zw cy B1 (ids ++ znmX16 o) z2)) ∧ zI9 (ids ++ znmX16 o) ∧ zRep D cy B1 (ids ++ znmX16 o) A H0 (zmg (znmX16 o) (zmwX16 o) z) H locs := by
  obtain ⟨B1, hB, hm⟩ := zBx B ids (znmX16 o) [h0, q1, q2] rfl hfr.1 hfr.2
  simp only [znmX16, List.map_cons, List.map_nil, List.cons.injEq] at hm
  obtain ⟨e0, e1, e2, -⟩ := hm
  have hcl : zClN (znmX16 o) := zClN_ob (k := 16) (o := o) (by decide)
  have hw : zWf (ids ++ znmX16 o) (zmwX16 o) := (zWf_sI (zWf_z _) _ _ _ _)
  have m0 : (16, o) ∈ znmX16 o := List.mem_of_getElem? (i := 0) rfl
  have m1 : (164, o) ∈ znmX16 o := List.mem_of_getElem? (i := 1) rfl
  have m2 : (165, o) ∈ znmX16 o := List.mem_of_getElem? (i := 2) rfl
  have wi16_9 : ∀ o1, zgI (zmwX16 o) 16 9 o1 = 0 := fun _ => rfl
  have wi16_8 : ∀ o1, zgI (zmwX16 o) 16 8 o1 = 0 := fun _ => rfl
  have wi16_7 : ∀ o1, zgI (zmwX16 o) 16 7 o1 = 0 := fun _ => rfl
  have wi16_5 : ∀ o1, zgI (zmwX16 o) 16 5 o1 = 0 := fun _ => rfl
  have wi16_2 : ∀ o1, zgI (zmwX16 o) 16 2 o1 = 0 := fun _ => rfl
  have wi16_1 : ∀ o1, zgI (zmwX16 o) 16 1 o1 = 0 := fun _ => rfl
  have wi16_0 : ∀ o1, zgI (zmwX16 o) 16 0 o1 = 0 := fun _ => rfl
  have wa165 : ∀ o1 i1, zgA (zmwX16 o) 165 o1 i1 = 0 := fun _ _ => rfl
  obtain ⟨s1, s2, s3⟩ := zabs (w := (zmwX16 o)) hst h9 hr hB hfr.1 hfr.2 hcl hw (by
    refine zal2_cons (zceO (k := 16) (o := o) (by decide) e0 (zcons (zfvI m0 rfl (wi16_0 _)) (zcons (zfvI m0 rfl (wi16_1 _)) (zcons (zfvI m0 rfl (wi16_2 _)) (zcons (zfvI m0 rfl (by simp [zmwX16, zgI_sI, zgI_sR, zgI_sQ, zgR_sI, zgR_sR, zgR_sQ, zgI_fl, zgR_fl])) (zcons (zfvA rfl e1) (zcons (zfvI m0 rfl (wi16_5 _)) (zcons (zfvA rfl e2) (zcons (zfvI m0 rfl (wi16_7 _)) (zcons (zfvI m0 rfl (wi16_8 _)) (zcons (zfvI m0 rfl (wi16_9 _)) (rfl)))))))))))) ?_
    refine zal2_cons (zceQ (k := 164) (o := o) (L := 8) (L' := 8) (tg := 18) (by decide) rfl (zlen_d (by decide)) e1 m1 (fun i => rfl)) ?_
    refine zal2_cons (zceI (k := 165) (o := o) (c := 1) (L := 64) (tg := 0) (by decide) (by decide) rfl (by decide) e2 m2 (fun i => wa165 _ i)) ?_
    exact zal2_nil)
  exact ⟨B1, hB, e0, s1, s2, zI9_app h9 (fun o h => by simp [znmX16] at h), s3⟩
def znmX17 (o : Nat) : List (Nat × Nat) := [(17, o), (166, o)]
def zmwX17 (o : Nat)  : St := zz0
set_option maxHeartbeats 40000000 in
set_option maxRecDepth 100000 in
theorem zmkX17 {D : va_G} {cy : Nat → ClassId} {B : Nat → Nat → Nat} {ids : List (Nat × Nat)} {A : Nat → Prop} {H0 : Heap} {z : St} {H : Heap} {locs : List Loc} (hst : zSt B ids) (h9 : zI9 ids) (o : Nat)  (hfr : zfr (znmX17 o) ids) {h0 q1 : Nat} (hr : zRC D cy B ids A H0 z [(h0, .inr (17, [.int 0, .int 0, .int 0, .int 0, .int 0, .int 0, .ref q1])), (q1, .inl (cy 3, (192, .inl (fun _ => 0))))] H locs) : ∃ B1 : Nat → Nat → Nat, (∀ k o, (k, o) ∈ ids → B1 k o = B k o) ∧ B1 17 o = h0 ∧ zSt B1 (ids ++ znmX17 o) ∧ (∀ z2, va_D A (zw cy B1 (ids ++ znmX17 o) z2)) ∧ zI9 (ids ++ znmX17 o) ∧ zRep D cy B1 (ids ++ znmX17 o) A H0 (zmg (znmX17 o) (zmwX17 o) z) H locs := by
  obtain ⟨B1, hB, hm⟩ := zBx B ids (znmX17 o) [h0, q1] rfl hfr.1 hfr.2
  simp only [znmX17, List.map_cons, List.map_nil, List.cons.injEq] at hm
  obtain ⟨e0, e1, -⟩ := hm
  have hcl : zClN (znmX17 o) := zClN_ob (k := 17) (o := o) (by decide)
  have hw : zWf (ids ++ znmX17 o) (zmwX17 o) := (zWf_z _)
  have m0 : (17, o) ∈ znmX17 o := List.mem_of_getElem? (i := 0) rfl
  have m1 : (166, o) ∈ znmX17 o := List.mem_of_getElem? (i := 1) rfl
  have wi17 : ∀ j1 o1, zgI (zmwX17 o) 17 j1 o1 = 0 := fun _ _ => rfl
  have wa166 : ∀ o1 i1, zgA (zmwX17 o) 166 o1 i1 = 0 := fun _ _ => rfl
  obtain ⟨s1, s2, s3⟩ := zabs (w := (zmwX17 o)) hst h9 hr hB hfr.1 hfr.2 hcl hw (by
    refine zal2_cons (zceO (k := 17) (o := o) (by decide) e0 (zcons (zfvI m0 rfl (wi17 _ _)) (zcons (zfvI m0 rfl (wi17 _ _)) (zcons (zfvI m0 rfl (wi17 _ _)) (zcons (zfvI m0 rfl (wi17 _ _)) (zcons (zfvI m0 rfl (wi17 _ _)) (zcons (zfvI m0 rfl (wi17 _ _)) (zcons (zfvA rfl e1) (rfl))))))))) ?_
    refine zal2_cons (zceI (k := 166) (o := o) (c := 3) (L := 192) (tg := 0) (by decide) (by decide) rfl (by decide) e1 m1 (fun i => wa166 _ i)) ?_
    exact zal2_nil)
  exact ⟨B1, hB, e0, s1, s2, zI9_app h9 (fun o h => by simp [znmX17] at h), s3⟩
def znmX18 (o : Nat) : List (Nat × Nat) := [(18, o), (167, o), (168, o), (169, o), (170, o), (171, o)]
def zmwX18 (o : Nat)  : St := (zsI (zsI zz0 18 4 o (10 : Int32)) 18 5 o (1 : Int32))
set_option maxHeartbeats 40000000 in
set_option maxRecDepth 100000 in
theorem zmkX18 {D : va_G} {cy : Nat → ClassId} {B : Nat → Nat → Nat} {ids : List (Nat × Nat)} {A : Nat → Prop} {H0 : Heap} {z : St} {H : Heap} {locs : List Loc} (hst : zSt B ids) (h9 : zI9 ids) (o : Nat)  (hfr : zfr (znmX18 o) ids) {h0 q1 q2 q3 q4 q5 : Nat} (hr : zRC D cy B ids A H0 z [(h0, .inr (18, [.null, .int 0, .null, .int 0, .int (10 : Int32), .int (1 : Int32), .ref q1, .ref q2, .ref q3, .int 0, .ref q4, .ref q5, .int 0])), (q1, .inl (cy 1, (8, .inl (fun _ => 0)))), (q2, .inl (cy 1, (8, .inl (fun _ => 0)))), (q3, .inl (cy 1, (8, .inl (fun _ => 0)))), (q4, .inl (cy 1, (17, .inl (fun _ => 0)))), (q5, .inl (cy 1, (17, .inl (fun _ => 0))))] H locs) : ∃ B1 : Nat → Nat → Nat, (∀ k o, (k, o) ∈ ids → B1 k o = B k o) ∧ B1 18 o = h0 ∧ zSt B1 (ids ++ znmX18 o) ∧ (∀ z2, va_D A (zw cy B1 (ids ++ znmX18 o) z2)) ∧ zI9 (ids ++ znmX18 o) ∧ zRep D cy B1 (ids ++ znmX18 o) A H0 (zmg (znmX18 o) (zmwX18 o) z) H locs := by
  obtain ⟨B1, hB, hm⟩ := zBx B ids (znmX18 o) [h0, q1, q2, q3, q4, q5] rfl hfr.1 hfr.2
  simp only [znmX18, List.map_cons, List.map_nil, List.cons.injEq] at hm
  obtain ⟨e0, e1, e2, e3, e4, e5, -⟩ := hm
  have hcl : zClN (znmX18 o) := zClN_ob (k := 18) (o := o) (by decide)
  have hw : zWf (ids ++ znmX18 o) (zmwX18 o) := (zWf_sI (zWf_sI (zWf_z _) _ _ _ _) _ _ _ _)
  have m0 : (18, o) ∈ znmX18 o := List.mem_of_getElem? (i := 0) rfl
  have m1 : (167, o) ∈ znmX18 o := List.mem_of_getElem? (i := 1) rfl
  have m2 : (168, o) ∈ znmX18 o := List.mem_of_getElem? (i := 2) rfl
  have m3 : (169, o) ∈ znmX18 o := List.mem_of_getElem? (i := 3) rfl
  have m4 : (170, o) ∈ znmX18 o := List.mem_of_getElem? (i := 4) rfl
  have m5 : (171, o) ∈ znmX18 o := List.mem_of_getElem? (i := 5) rfl
  have wi18_12 : ∀ o1, zgI (zmwX18 o) 18 12 o1 = 0 := fun _ => rfl
  have wi18_9 : ∀ o1, zgI (zmwX18 o) 18 9 o1 = 0 := fun _ => rfl
  have wi18_3 : ∀ o1, zgI (zmwX18 o) 18 3 o1 = 0 := fun _ => rfl
  have wr18_2 : ∀ o1, zgR (zmwX18 o) 18 2 o1 = none := fun _ => rfl
  have wi18_1 : ∀ o1, zgI (zmwX18 o) 18 1 o1 = 0 := fun _ => rfl
  have wr18_0 : ∀ o1, zgR (zmwX18 o) 18 0 o1 = none := fun _ => rfl
  have wa167 : ∀ o1 i1, zgA (zmwX18 o) 167 o1 i1 = 0 := fun _ _ => rfl
  have wa168 : ∀ o1 i1, zgA (zmwX18 o) 168 o1 i1 = 0 := fun _ _ => rfl
  have wa169 : ∀ o1 i1, zgA (zmwX18 o) 169 o1 i1 = 0 := fun _ _ => rfl
  have wa170 : ∀ o1 i1, zgA (zmwX18 o) 170 o1 i1 = 0 := fun _ _ => rfl
  have wa171 : ∀ o1 i1, zgA (zmwX18 o) 171 o1 i1 = 0 := fun _ _ => rfl
  obtain ⟨s1, s2, s3⟩ := zabs (w := (zmwX18 o)) hst h9 hr hB hfr.1 hfr.2 hcl hw (by
    refine zal2_cons (zceO (k := 18) (o := o) (by decide) e0 (zcons (zfvN m0 rfl (wr18_0 _)) (zcons (zfvI m0 rfl (wi18_1 _)) (zcons (zfvN m0 rfl (wr18_2 _)) (zcons (zfvI m0 rfl (wi18_3 _)) (zcons (zfvI m0 rfl (by simp [zmwX18, zgI_sI, zgI_sR, zgI_sQ, zgR_sI, zgR_sR, zgR_sQ, zgI_fl, zgR_fl])) (zcons (zfvI m0 rfl (by simp [zmwX18, zgI_sI, zgI_sR, zgI_sQ, zgR_sI, zgR_sR, zgR_sQ, zgI_fl, zgR_fl])) (zcons (zfvA rfl e1) (zcons (zfvA rfl e2) (zcons (zfvA rfl e3) (zcons (zfvI m0 rfl (wi18_9 _)) (zcons (zfvA rfl e4) (zcons (zfvA rfl e5) (zcons (zfvI m0 rfl (wi18_12 _)) (rfl))))))))))))))) ?_
    refine zal2_cons (zceI (k := 167) (o := o) (c := 1) (L := 8) (tg := 0) (by decide) (by decide) rfl (by decide) e1 m1 (fun i => wa167 _ i)) ?_
    refine zal2_cons (zceI (k := 168) (o := o) (c := 1) (L := 8) (tg := 0) (by decide) (by decide) rfl (by decide) e2 m2 (fun i => wa168 _ i)) ?_
    refine zal2_cons (zceI (k := 169) (o := o) (c := 1) (L := 8) (tg := 0) (by decide) (by decide) rfl (by decide) e3 m3 (fun i => wa169 _ i)) ?_
    refine zal2_cons (zceI (k := 170) (o := o) (c := 1) (L := 17) (tg := 0) (by decide) (by decide) rfl (by decide) e4 m4 (fun i => wa170 _ i)) ?_
    refine zal2_cons (zceI (k := 171) (o := o) (c := 1) (L := 17) (tg := 0) (by decide) (by decide) rfl (by decide) e5 m5 (fun i => wa171 _ i)) ?_
    exact zal2_nil)
  exact ⟨B1, hB, e0, s1, s2, zI9_app h9 (fun o h => by simp [znmX18] at h), s3⟩
