theorem zn_141 : Cond.methodLinkNest RX11 52 yX5_init "WholeInternet" ∈ zNL := zmemN 141 (by decide +kernel) rfl
theorem zn_44 : Cond.methodLinkNest RX11 30 yX7_init "WholeInternet" ∈ zNL := zmemN 44 (by decide +kernel) rfl
theorem zq_140 : Cond.instantiable RX5 11 ∈ zGW := zmem 140 (by decide +kernel) (by decide +kernel)
theorem zq_142 : Cond.instanceMethod yX5_init ∈ zGW := zmem 142 (by decide +kernel) (by decide +kernel)
theorem zq_34 : Cond.methodLink RX11 1 objectInit ∈ zGW := zmem 34 (by decide +kernel) (by decide +kernel)
theorem zq_37 : Cond.classLink RX11 9 RX5 ∈ zGW := zmem 37 (by decide +kernel) (by decide +kernel)
theorem zq_41 : Cond.classLink RX11 21 RX7 ∈ zGW := zmem 41 (by decide +kernel) (by decide +kernel)
def znmX11 (o : Nat) : List (Nat × Nat) := [(11, o), (139, o), (140, o), (141, o), (142, o), (7, 0), (125, 0), (7, 1), (125, 1), (143, o), (144, o), (145, o), (146, o)]
def zmwX11 (o : Nat)  : St := (zsR (zsR zz0 11 13 o (some 0)) 11 14 o (some 1))
theorem zarrs_11 : zarrs 11 = [139, 140, 141, 142, 143, 144, 145, 146] := by decide +kernel
theorem zarrs_7 : zarrs 7 = [125] := by decide +kernel
theorem zClN_X11 (o : Nat) : zClN (znmX11 o) := by
  have hb : ∀ a, a ∈ zarrs 11 → (a, o) ∈ znmX11 o := by
    intro a ha
    rw [zarrs_11] at ha
    simp only [List.mem_cons, List.not_mem_nil, or_false] at ha
    rcases ha with rfl | rfl | rfl | rfl | rfl | rfl | rfl | rfl
    · exact List.mem_of_getElem? (i := 1) rfl
    · exact List.mem_of_getElem? (i := 2) rfl
    · exact List.mem_of_getElem? (i := 3) rfl
    · exact List.mem_of_getElem? (i := 4) rfl
    · exact List.mem_of_getElem? (i := 9) rfl
    · exact List.mem_of_getElem? (i := 10) rfl
    · exact List.mem_of_getElem? (i := 11) rfl
    · exact List.mem_of_getElem? (i := 12) rfl
  intro k o' h
  have hk : (k = 11 ∧ o' = o) ∨ (k = 7 ∧ (125, o') ∈ znmX11 o) ∨ (100 ≤ k ∧ (zkA k).1 ≠ 5) := by
    simp only [znmX11, List.mem_cons, List.not_mem_nil, or_false, Prod.mk.injEq] at h
    rcases h with ⟨rfl, rfl⟩ | ⟨rfl, rfl⟩ | ⟨rfl, rfl⟩ | ⟨rfl, rfl⟩ | ⟨rfl, rfl⟩ | ⟨rfl, rfl⟩ | ⟨rfl, rfl⟩ | ⟨rfl, rfl⟩ | ⟨rfl, rfl⟩ | ⟨rfl, rfl⟩ | ⟨rfl, rfl⟩ | ⟨rfl, rfl⟩ | ⟨rfl, rfl⟩ <;> first | exact Or.inl ⟨rfl, rfl⟩ | exact Or.inr (Or.inl ⟨rfl, List.mem_of_getElem? (i := 6) rfl⟩) | exact Or.inr (Or.inl ⟨rfl, List.mem_of_getElem? (i := 8) rfl⟩) | exact Or.inr (Or.inr (by decide))
  rcases hk with ⟨rfl, rfl⟩ | ⟨rfl, h1⟩ | ⟨h1, h2⟩
  · exact ⟨hb, fun h5 => absurd h5 (by decide)⟩
  · exact ⟨fun a ha => (by rw [zarrs_7] at ha; rw [List.mem_singleton.mp ha]; exact h1), fun h5 => absurd h5 (by decide)⟩
  · exact ⟨fun a ha => (by rw [zarrs_nil (by omega)] at ha; cases ha), fun h5 => absurd h5 h2⟩

set_option maxHeartbeats 40000000 in
set_option maxRecDepth 100000 in
theorem zmkX11 {D : va_G} {cy : Nat → ClassId} {B : Nat → Nat → Nat} {ids : List (Nat × Nat)} {A : Nat → Prop} {H0 : Heap} {z : St} {H : Heap} {locs : List Loc} (hst : zSt B ids) (h9 : zI9 ids) (o : Nat)  (hfr : zfr (znmX11 o) ids) {h0 q1 q2 q3 q4 q5 q6 q7 q8 q9 q10 q11 q12 : Nat} (hr : zRC D cy B ids A H0 z [(h0, .inr (11, [.ref q1, .int 0, .ref q2, .int 0, .int 0, .int 0, .int 0, .int 0, .int 0, .ref q3, .ref q4, .null, .int 0, .ref q5, .ref q7, .int 0, .ref q9, .ref q10, .ref q11, .int 0, .ref q12])), (q1, .inl (cy 9, (24, .inr (.inr (.inr (.inr (fun _ => none))))))), (q2, .inl (cy 10, (16, .inr (.inr (.inr (.inr (fun _ => none))))))), (q3, .inl (cy 6, (256, .inr (.inr (.inr (.inr (fun _ => none))))))), (q4, .inl (cy 6, (256, .inr (.inr (.inr (.inr (fun _ => none))))))), (q5, .inr (7, [.int 0, .int 0, .int 0, .int 0, .int 0, .int 0, .int 0, .int 0, .ref q6, .int 0, .int 0, .int 0, .int 0, .int 0, .null, .int 0, .int 0, .int 0, .int 0, .int 0])), (q6, .inl (cy 0, (1480, .inl (fun _ => 0)))), (q7, .inr (7, [.int 0, .int 0, .int 0, .int 0, .int 0, .int 0, .int 0, .int 0, .ref q8, .int 0, .int 0, .int 0, .int 0, .int 0, .null, .int 0, .int 0, .int 0, .int 0, .int 0])), (q8, .inl (cy 0, (1480, .inl (fun _ => 0)))), (q9, .inl (cy 1, (512, .inl (fun _ => 0)))), (q10, .inl (cy 1, (512, .inl (fun _ => 0)))), (q11, .inl (cy 2, (512, .inr (.inl (fun _ => 0))))), (q12, .inl (cy 1, (16, .inl (fun _ => 0))))] H locs) : ∃ B1 : Nat → Nat → Nat, (∀ k o, (k, o) ∈ ids → B1 k o = B k o) ∧ B1 11 o = h0 ∧ zSt B1 (ids ++ znmX11 o) ∧ (∀ z2, va_D A (zw cy B1 (ids ++ znmX11 o) z2)) ∧ zI9 (ids ++ znmX11 o) ∧ zRep D cy B1 (ids ++ znmX11 o) A H0 (zmg (znmX11 o) (zmwX11 o) z) H locs := by
  obtain ⟨B1, hB, hm⟩ := zBx B ids (znmX11 o) [h0, q1, q2, q3, q4, q5, q6, q7, q8, q9, q10, q11, q12] rfl hfr.1 hfr.2
  simp only [znmX11, List.map_cons, List.map_nil, List.cons.injEq] at hm
  obtain ⟨e0, e1, e2, e3, e4, e5, e6, e7, e8, e9, e10, e11, e12, -⟩ := hm
  have hcl : zClN (znmX11 o) := zClN_X11 o
  have hw : zWf (ids ++ znmX11 o) (zmwX11 o) := (zWf_sR (zWf_sR (zWf_z _) (fun t e => by cases e; exact (List.mem_append_right _ (List.mem_of_getElem? (l := znmX11 o) (i := 5) rfl)))) (fun t e => by cases e; exact (List.mem_append_right _ (List.mem_of_getElem? (l := znmX11 o) (i := 7) rfl))))
  have m0 : (11, o) ∈ znmX11 o := List.mem_of_getElem? (i := 0) rfl
  have m1 : (139, o) ∈ znmX11 o := List.mem_of_getElem? (i := 1) rfl
  have m2 : (140, o) ∈ znmX11 o := List.mem_of_getElem? (i := 2) rfl
  have m3 : (141, o) ∈ znmX11 o := List.mem_of_getElem? (i := 3) rfl
  have m4 : (142, o) ∈ znmX11 o := List.mem_of_getElem? (i := 4) rfl
  have m5 : (7, 0) ∈ znmX11 o := List.mem_of_getElem? (i := 5) rfl
  have m6 : (125, 0) ∈ znmX11 o := List.mem_of_getElem? (i := 6) rfl
  have m7 : (7, 1) ∈ znmX11 o := List.mem_of_getElem? (i := 7) rfl
  have m8 : (125, 1) ∈ znmX11 o := List.mem_of_getElem? (i := 8) rfl
  have m9 : (143, o) ∈ znmX11 o := List.mem_of_getElem? (i := 9) rfl
  have m10 : (144, o) ∈ znmX11 o := List.mem_of_getElem? (i := 10) rfl
  have m11 : (145, o) ∈ znmX11 o := List.mem_of_getElem? (i := 11) rfl
  have m12 : (146, o) ∈ znmX11 o := List.mem_of_getElem? (i := 12) rfl
  have wi11 : ∀ j1 o1, zgI (zmwX11 o) 11 j1 o1 = 0 := fun _ _ => rfl
  have wr11_11 : ∀ o1, zgR (zmwX11 o) 11 11 o1 = none := fun _ => rfl
  have wi7 : ∀ j1 o1, zgI (zmwX11 o) 7 j1 o1 = 0 := fun _ _ => rfl
  have wr7_14 : ∀ o1, zgR (zmwX11 o) 7 14 o1 = none := fun _ => rfl
  have wa125 : ∀ o1 i1, zgA (zmwX11 o) 125 o1 i1 = 0 := fun _ _ => rfl
  have wa143 : ∀ o1 i1, zgA (zmwX11 o) 143 o1 i1 = 0 := fun _ _ => rfl
  have wa144 : ∀ o1 i1, zgA (zmwX11 o) 144 o1 i1 = 0 := fun _ _ => rfl
  have wl145 : ∀ o1 i1, zgL (zmwX11 o) 145 o1 i1 = 0 := fun _ _ => rfl
  have wa146 : ∀ o1 i1, zgA (zmwX11 o) 146 o1 i1 = 0 := fun _ _ => rfl
  obtain ⟨s1, s2, s3⟩ := zabs (w := (zmwX11 o)) hst h9 hr hB hfr.1 hfr.2 hcl hw (by
    refine zal2_cons (zceO (k := 11) (o := o) (by decide) e0 (zcons (zfvA rfl e1) (zcons (zfvI m0 rfl (wi11 _ _)) (zcons (zfvA rfl e2) (zcons (zfvI m0 rfl (wi11 _ _)) (zcons (zfvI m0 rfl (wi11 _ _)) (zcons (zfvI m0 rfl (wi11 _ _)) (zcons (zfvI m0 rfl (wi11 _ _)) (zcons (zfvI m0 rfl (wi11 _ _)) (zcons (zfvI m0 rfl (wi11 _ _)) (zcons (zfvA rfl e3) (zcons (zfvA rfl e4) (zcons (zfvN m0 rfl (wr11_11 _)) (zcons (zfvI m0 rfl (wi11 _ _)) (zcons (zfvR m0 rfl (by simp [zmwX11, zgI_sI, zgI_sR, zgI_sQ, zgR_sI, zgR_sR, zgR_sQ, zgI_fl, zgR_fl]) e5) (zcons (zfvR m0 rfl (by simp [zmwX11, zgI_sI, zgI_sR, zgI_sQ, zgR_sI, zgR_sR, zgR_sQ, zgI_fl, zgR_fl]) e7) (zcons (zfvI m0 rfl (wi11 _ _)) (zcons (zfvA rfl e9) (zcons (zfvA rfl e10) (zcons (zfvA rfl e11) (zcons (zfvI m0 rfl (wi11 _ _)) (zcons (zfvA rfl e12) (rfl))))))))))))))))))))))) ?_
    refine zal2_cons (zceQ (k := 139) (o := o) (L := 24) (L' := 24) (tg := 5) (by decide) rfl (zlen_d (by decide)) e1 m1 (fun i => rfl)) ?_
    refine zal2_cons (zceQ (k := 140) (o := o) (L := 16) (L' := 16) (tg := 1) (by decide) rfl (zlen_d (by decide)) e2 m2 (fun i => rfl)) ?_
    refine zal2_cons (zceQ (k := 141) (o := o) (L := 256) (L' := 256) (tg := 7) (by decide) rfl (zlen_d (by decide)) e3 m3 (fun i => rfl)) ?_
    refine zal2_cons (zceQ (k := 142) (o := o) (L := 256) (L' := 256) (tg := 7) (by decide) rfl (zlen_d (by decide)) e4 m4 (fun i => rfl)) ?_
    refine zal2_cons (zceO (k := 7) (o := 0) (by decide) e5 (zcons (zfvI m5 rfl (wi7 _ _)) (zcons (zfvI m5 rfl (wi7 _ _)) (zcons (zfvI m5 rfl (wi7 _ _)) (zcons (zfvI m5 rfl (wi7 _ _)) (zcons (zfvI m5 rfl (wi7 _ _)) (zcons (zfvI m5 rfl (wi7 _ _)) (zcons (zfvI m5 rfl (wi7 _ _)) (zcons (zfvI m5 rfl (wi7 _ _)) (zcons (zfvA rfl e6) (zcons (zfvI m5 rfl (wi7 _ _)) (zcons (zfvI m5 rfl (wi7 _ _)) (zcons (zfvI m5 rfl (wi7 _ _)) (zcons (zfvI m5 rfl (wi7 _ _)) (zcons (zfvI m5 rfl (wi7 _ _)) (zcons (zfvN m5 rfl (wr7_14 _)) (zcons (zfvI m5 rfl (wi7 _ _)) (zcons (zfvI m5 rfl (wi7 _ _)) (zcons (zfvI m5 rfl (wi7 _ _)) (zcons (zfvI m5 rfl (wi7 _ _)) (zcons (zfvI m5 rfl (wi7 _ _)) (rfl)))))))))))))))))))))) ?_
    refine zal2_cons (zceI (k := 125) (o := 0) (c := 0) (L := 1480) (tg := 0) (by decide) (by decide) rfl (by decide) e6 m6 (fun i => wa125 _ i)) ?_
    refine zal2_cons (zceO (k := 7) (o := 1) (by decide) e7 (zcons (zfvI m7 rfl (wi7 _ _)) (zcons (zfvI m7 rfl (wi7 _ _)) (zcons (zfvI m7 rfl (wi7 _ _)) (zcons (zfvI m7 rfl (wi7 _ _)) (zcons (zfvI m7 rfl (wi7 _ _)) (zcons (zfvI m7 rfl (wi7 _ _)) (zcons (zfvI m7 rfl (wi7 _ _)) (zcons (zfvI m7 rfl (wi7 _ _)) (zcons (zfvA rfl e8) (zcons (zfvI m7 rfl (wi7 _ _)) (zcons (zfvI m7 rfl (wi7 _ _)) (zcons (zfvI m7 rfl (wi7 _ _)) (zcons (zfvI m7 rfl (wi7 _ _)) (zcons (zfvI m7 rfl (wi7 _ _)) (zcons (zfvN m7 rfl (wr7_14 _)) (zcons (zfvI m7 rfl (wi7 _ _)) (zcons (zfvI m7 rfl (wi7 _ _)) (zcons (zfvI m7 rfl (wi7 _ _)) (zcons (zfvI m7 rfl (wi7 _ _)) (zcons (zfvI m7 rfl (wi7 _ _)) (rfl)))))))))))))))))))))) ?_
    refine zal2_cons (zceI (k := 125) (o := 1) (c := 0) (L := 1480) (tg := 0) (by decide) (by decide) rfl (by decide) e8 m8 (fun i => wa125 _ i)) ?_
    refine zal2_cons (zceI (k := 143) (o := o) (c := 1) (L := 512) (tg := 0) (by decide) (by decide) rfl (by decide) e9 m9 (fun i => wa143 _ i)) ?_
    refine zal2_cons (zceI (k := 144) (o := o) (c := 1) (L := 512) (tg := 0) (by decide) (by decide) rfl (by decide) e10 m10 (fun i => wa144 _ i)) ?_
    refine zal2_cons (zceL (k := 145) (o := o) (tg := 0) (by decide) (by decide) rfl e11 m11 (wl145 _)) ?_
    refine zal2_cons (zceI (k := 146) (o := o) (c := 1) (L := 16) (tg := 0) (by decide) (by decide) rfl (by decide) e12 m12 (fun i => wa146 _ i)) ?_
    exact zal2_nil)
  exact ⟨B1, hB, e0, s1, s2, zI9_app h9 (fun o h => by simp [znmX11] at h), s3⟩
