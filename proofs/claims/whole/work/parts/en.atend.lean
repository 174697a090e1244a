/-! a segment comes to an end: both sides -/
/-- an end that answers begins again -/
theorem zp_beginAgain {z w : St} {T : Tp} {E : Ev} {g : Sg} {K : Int32 → Int32 → Int32 → Prop} {XM TS TA : List Nat} {e bk N : Nat} (hM : zMB w T E g K XM TS TA) (he : hEnd T e) (h16 : zgR z 3 16 e = some e) (h17 : zgR z 3 17 e = some e) (h18 : zgR z 3 18 e = some e) (hbk : bk < 2592) (h44 : zgI w 14 44 e = Int32.ofNat bk) (h33 : ¬ zgI z 3 3 e = 0) (h : zEe z w e) (hN : 2048 < N) :
    ∃ z' w', fX3_beginAgain N e (zgI z 6 4 e) z = some (0, z') ∧ (zc (fX14_begin N e (zgI w 14 5 e) (zgI w 14 14 e) w) fun _ z40 => zk (zgI z40 14 44 e) 2592 <| zl (zsA z40 182 0 (Int32.toNatClampNeg (zgI z40 14 44 e)) (0 : Int32)) fun z43 => zc (fX19_dropBook N 0 (zgI z43 14 45 e) z43) fun _ z45 => zl (zsI z45 14 45 e (-1 : Int32)) fun z48 => zl (zsI z48 14 0 e (1 : Int32)) fun z49 => zl (zsI z49 14 1 e (1 : Int32)) fun z50 => some (0, z50)) = some ((0 : Int32), w') ∧ zEe z' w' e ∧ zMB w' T E g K XM TS TA ∧ zEc1 e z z' ∧ zBe e w w' := by
  obtain ⟨hV, hI⟩ := hM
  obtain ⟨R, pR, lR, uR⟩ := zTB_at (w := w) he.1 he.2
  obtain ⟨i44, i45⟩ := hI e he
  obtain ⟨z', a1, a2, a3, a4⟩ := zc_beginAgain (z := z) (e := e) (N := N) (zgI z 6 4 e) h16 h17 h18 hN
  obtain ⟨w1, b1, b2, b3, b4⟩ := zm_begin w (e := e) (N := N) (zgI w 14 5 e) (zgI w 14 14 e) hN
  have n44 : zgI w1 14 44 e = Int32.ofNat bk := by
    rw [b2]; unfold bgM
    rw [if_neg (by omega), if_neg (by omega), if_neg (by omega), if_neg (by omega), if_neg (by omega)]; exact h44
  have n45 : zgI w1 14 45 e = zgI w 14 45 e := by
    rw [b2]; unfold bgM
    rw [if_neg (by omega), if_neg (by omega), if_neg (by omega), if_neg (by omega), if_neg (by omega)]
  obtain ⟨w2, hw2⟩ : ∃ y, y = zsA w1 182 0 bk 0 := ⟨_, rfl⟩
  have M1 : zMV w1 T E g K XM TS TA (zTB w T) := zMV_em0 hV b4
  have f2 : zFr 0x40000000000000000000000000000000000000000000000000000000000000000000000000000000000000000000000000000000000000000000000000000000000000000000000000000000000000000000000000000000000000000000000000000000000000000000000000000000000000000000000000000000000000000000000000000000000000000000000000000000000000000000000000000000000000000000000000000 w1 w2 := by rw [hw2]; exact zFr_A (zFr_rf _ _) (by decide)
  have M2 : zMV w2 T E g K XM TS TA (zTB w T) := zMV_fr f2 (by decide +kernel) (fun k o i => by rw [hw2]; rfl) M1
  have M2' : zMV w2 T E g K XM TS TA (bk1 (zgI w 14 45 e) ++ (bk1 (zgI w 14 44 e) ++ R)) := by
    have := zMV_permTB pR M2
    unfold bk2 at this
    refine zMV_permTB ?_ this
    rw [← List.append_assoc]
    exact List.Perm.append_right R List.perm_append_comm
  obtain ⟨w3, c1, c2, c3, c4, c5⟩ := zm_drop1 (N := N) i45 M2'
  obtain ⟨w4, hw4⟩ : ∃ y, y = zsI (zsI (zsI w3 14 45 e (-1)) 14 0 e 1) 14 1 e 1 := ⟨_, rfl⟩
  have M4 : zMV w4 T E g K XM TS TA (bk1 (zgI w 14 44 e) ++ R) := by rw [hw4]; exact zMV_i14 (zMV_i14 (zMV_i14 c2))
  have I4 : ∀ k j u, ¬ (k = 19 ∧ j = 17) → zgI w4 k j u = if k = 14 ∧ j = 1 ∧ u = e then 1 else if k = 14 ∧ j = 0 ∧ u = e then 1 else if k = 14 ∧ j = 45 ∧ u = e then -1 else bgM (zgI w 14 5 e) (zgI w 14 14 e) w e k j u := fun k j u n => by
    rw [hw4]; simp only [zgI_sI]
    rw [c4 k j u n, hw2, zgI_sA, b2]
  have m14 : ∀ j, ¬ (j = 0 ∨ j = 1 ∨ j = 45) → zgI w4 14 j e = bgM (zgI w 14 5 e) (zgI w 14 14 e) w e 14 j e := fun j hj => by
    rw [I4 14 j e (by omega), if_neg (by omega), if_neg (by omega), if_neg (by omega)]
  have o14 : ∀ k j u, ¬ (k = 19 ∧ j = 17) → ¬ (k = 14 ∧ u = e ∧ ¬ (j = 2 ∨ j = 3 ∨ j = 4)) → zgI w4 k j u = zgI w k j u := fun k j u n n2 => by
    rw [I4 k j u n, if_neg (by omega), if_neg (by omega), if_neg (by omega)]
    unfold bgM
    rw [if_neg (by omega), if_neg (by omega), if_neg (by omega), if_neg (by omega), if_neg (by omega)]
  have A4 : ∀ k u i, ¬ (182 ≤ k ∧ k ≤ 185) → zgA w4 k u i = if k = 161 ∧ u = e ∧ i < 2048 then 0 else zgA w k u i := fun k u i n => by
    rw [hw4]
    show zgA w3 k u i = _
    rw [c3 k u i (by omega) (by omega), hw2, zgA_sA, if_neg (by omega), b3]
  have L4 : ∀ k u i, zgL w4 k u i = zgL w k u i := fun k u i => by
    rw [hw4]
    show zgL w3 k u i = _
    rw [zdB_L c1, hw2]
    exact b4.2.2.1 k u i
  have Q4 : ∀ k u i, zgQ w4 k u i = zgQ w k u i := fun k u i => by
    rw [hw4]
    show zgQ w3 k u i = _
    rw [(zdB_QR c1).1, hw2]
    exact b4.2.2.2.1 k u i
  have R4 : ∀ k u i, zgR w4 k u i = zgR w k u i := fun k u i => by
    rw [hw4]
    show zgR w3 k u i = _
    rw [c5, hw2]
    exact b4.2.2.2.2 k u i
  have e44 : zgI w4 14 44 e = zgI w 14 44 e := by
    rw [m14 44 (by omega)]; unfold bgM
    rw [if_neg (by omega), if_neg (by omega), if_neg (by omega), if_neg (by omega), if_neg (by omega)]
  have e45 : zgI w4 14 45 e = -1 := by rw [I4 14 45 e (by omega), if_neg (by omega), if_neg (by omega), if_pos (by simp)]
  obtain ⟨hs, ho, hi, ht, hn⟩ := id h
  obtain ⟨⟨s0, s1, s2, s3, s4⟩, ⟨s5, s6⟩, -⟩ := hs
  have c0 : ∀ k j, zgI z' k j e = bgC (zgI z 6 4 e) z e k j e := fun k j => a2 k j e
  have k3 : ∀ j, (j = 1 ∨ j = 3 ∨ (5 ≤ j ∧ j ≤ 8)) → zgI z' 3 j e = zgI z 3 j e := fun j hj => by
    rw [c0]; unfold bgC
    rw [if_neg (by omega), if_neg (by omega), if_neg (by omega), if_neg (by omega), if_neg (by omega), if_neg (by omega)]
  have g14 : ∀ j, (j = 14 ∨ (24 ≤ j ∧ j ≤ 27)) → zgI w4 14 j e = zgI w 14 j e := fun j hj => by
    rw [m14 j (by omega)]; unfold bgM
    by_cases q : j = 14
    · subst q; simp
    · rw [if_neg (by omega), if_neg (by omega), if_neg (by omega), if_neg (by omega), if_neg (by omega)]
  refine ⟨z', w4, a1, ?_, ?_, ⟨?_, fun u hu => ?_⟩, a4, ⟨fun k j u n1 n2 => o14 k j u n2 n1, fun k u i n1 n2 => ?_, fun k u i _ => L4 k u i, Q4, R4⟩⟩
  · rw [b1, zc_e, n44, zkk (by omega) (by omega), zl_e, zoC (by omega), ← hw2, show zgI w2 14 45 e = zgI w 14 45 e by rw [hw2, zgI_sA, n45], c1, zc_e, zl_e, zl_e, zl_e, ← hw4]
  · refine zEe_new (F := zgI z 6 4 e) (fun j hj => ?_) ?_ ?_ ?_ (fun j hj => ?_) (fun j hj => ?_) (fun j hj => ?_) (fun i hi => ?_) ?_ ?_ ?_ (fun j hj => ?_) ?_ (fun j hj => ?_) ?_ ?_ ?_ (fun i hi => ?_) ?_
    · rw [c0]; unfold bgC; rw [if_pos (by omega)]
    · rw [c0]; unfold bgC; simp
    · rw [k3 1 (by omega), c0]; unfold bgC; simp
    · rw [k3 3 (by omega)]; exact h33
    · rw [c0]; unfold bgC
      rw [if_neg (by omega), if_neg (by omega), if_neg (by omega), if_pos (by omega)]
    · rw [c0]; unfold bgC
      rw [if_neg (by omega), if_neg (by omega), if_neg (by omega), if_neg (by omega), if_pos (by omega)]
    · rw [c0]; unfold bgC
      rw [if_neg (by omega), if_neg (by omega), if_neg (by omega), if_neg (by omega), if_neg (by omega), if_pos (by omega)]
    · rw [a3, if_pos ⟨rfl, rfl, hi⟩]
    · rw [k3 1 (by omega)]; exact hn.2.2.1
    · rw [I4 14 0 e (by omega), if_neg (by omega), if_pos (by simp)]
    · rw [I4 14 1 e (by omega), if_pos (by simp)]; decide
    · rw [m14 j (by omega)]; unfold bgM
      rw [if_neg (by omega), if_pos (by omega)]; exact ho.1.1.symm
    · rw [m14 8 (by omega), ho.1.1]; unfold bgM; simp
    · rw [m14 j (by omega)]; unfold bgM
      rw [if_pos (by omega)]
    · rw [g14 14 (by omega), k3 1 (by omega)]; exact s1.symm
    · rw [m14 15 (by omega), k3 1 (by omega), s1]; unfold bgM; simp
    · rw [m14 35 (by omega)]; unfold bgM; simp
    · rw [A4 161 e i (by omega), if_pos ⟨rfl, rfl, hi⟩]
    · rw [k3 5 (by omega), k3 6 (by omega), k3 7 (by omega), k3 8 (by omega), g14 24 (by omega), g14 25 (by omega), g14 26 (by omega), g14 27 (by omega)]
      exact ⟨s5, s6⟩
  · have p := uR w4 (fun j u hj q => o14 14 j u (by omega) (by omega))
    unfold bk2 at p
    rw [e44, e45, bk1_n, List.append_nil] at p
    exact zMV_permTB p.symm M4
  · by_cases q : u = e
    · rw [q, e44, e45]; exact ⟨i44, Or.inl rfl⟩
    · rw [o14 14 44 u (by omega) (by omega), o14 14 45 u (by omega) (by omega)]; exact hI u hu
  · rw [A4 k u i n2, if_neg (by omega)]
/-- a segment comes to an end that lives -/
theorem zp_atEnd {z w : St} {T : Tp} {E : Ev} {g : Sg} {Wy : Wyt} {R : Rg} {mk : Nat → Nat} {K : Int32 → Int32 → Int32 → Prop} {X XM TS TA : List Nat} {e x s bk q N : Nat} {V : Sv} (hp : zIp z w T E g g Wy R mk K X XM TS TA (zTB w T)) (hI : ∀ u, hEnd T u → zIx (zgI w 14 44 u) 2592 ∧ zIx (zgI w 14 45 u) 2592) (he : hEnd T e) (u0 : zgI z 2 0 e = 2) (hst : stD (zgI z 3 0 e) = false) (hn : eN E ≤ 400000) (hbk : bk < 2592) (h44 : zgI w 14 44 e = Int32.ofNat bk) (hV : zSgC z x V) (hVm : zSgM w s V) (hW : ∃ v : Nat, v ≤ 65535 ∧ vgW V = Int32.ofNat v) (hL : ∃ v : Nat, v ≤ 65535 ∧ vgL V = Int32.ofNat v) (hix : zIx (msg w s 8) 2592) (hl : TS.length + TA.length ≤ 4000) (hN : 4096 < N) :
    ∃ z' w', fX11_takeSegment_143 N 0 q x (some e) z = some (0, z') ∧ zsgA N e (Int32.ofNat s) w = some (0, w') ∧ zIp z' w' T E g g Wy R mk K X XM TS TA (zTB w' T) ∧ (∀ u, hEnd T u → zIx (zgI w' 14 44 u) 2592 ∧ zIx (zgI w' 14 45 u) 2592) ∧ zEc1 e z z' ∧ zBe e w w' := by
  obtain ⟨⟨p1, p2, p3, p4, p5, p8, p9, p10⟩, hR, hWo⟩ := id hp
  obtain ⟨he1, he2, he3⟩ := id he
  obtain ⟨hTC, hc, hEc, hEw, -⟩ := id p1
  have rdAt : zRd z w e := by
    have := p8 (e / 6) (e % 6) he2 he3 (by omega)
    rw [show 6 * (e / 6) + e % 6 = e from by omega] at this
    exact this
  have hE := zRd_E rdAt u0
  obtain ⟨-, t2, t16, t17, t18⟩ := hTC.2.2.1.2 (e / 6) he2 he3 (e % 6) (by omega)
  rw [show 6 * (e / 6) + e % 6 = e from by omega] at t2 t16 t17 t18
  have tc : zgI z 11 4 0 = Int32.ofNat (eN E) := hEc.1
  have tm : zgI w 19 24 0 = Int32.ofNat (eN E) := p2.2.2.1.1
  have hMB : zMB w T E g K XM TS TA := ⟨p2, hI⟩
  have fin : ∀ z' w', zEe z' w' e → zMB w' T E g K XM TS TA → zEc1 e z z' → zBe e w w' → zIp z' w' T E g g Wy R mk K X XM TS TA (zTB w' T) := fun z' w' a1 a2 a3 a4 =>
    zIp_ends (b := 0) hp (zEk_c a3) (fun c => a3.2.1 113 c 2 (by omega)) (zBz_e a4) a2.1 (fun _ => zRd_of rdAt u0 (fun j => a3.1 2 j e (by omega)) (fun j => a4.1 13 j e (by omega) (by omega)) (fun j hj => a4.1 14 j e (by omega) (by omega)) a1)
  have d0 : ¬ (zgI z 3 0 e = 0 ∨ zgI z 3 0 e = 11) := by
    unfold stD at hst; simpa using hst
  have s0 : zgI w 14 0 e = zgI z 3 0 e := hE.1.1.1.symm
  unfold fX11_takeSegment_143 zsgA
  rw [zo_e, t2, zl_e, zd_e]
  by_cases c1 : zgI z 3 0 e = 1
  · rw [if_neg (fun y => y c1), zl_e, zd_e]
    obtain ⟨z', w', a1, a2, a3, a4, a5, a6⟩ := zp_listening (N := N) t16 t17 hV hVm hW hL hMB he hix hl c1 hE
    refine ⟨z', w', ?_, ?_, fin z' w' a3 a4 a5 a6, a4.2, a5, a6⟩
    · rw [a1, zc_e]
    · unfold fX19_arrives
      rw [s0, if_neg (fun y => y c1), a2, zc_e, zc_e, if_pos rfl]
  · rw [if_pos c1, zl_e, zd_e]
    by_cases c2 : zgI z 3 0 e = 2
    · rw [if_neg (fun y => y c2), zl_e, zd_e, tc]
      obtain ⟨z', w', a1, a2, a3, a4, a5, a6⟩ := zp_asking (N := N) hn tm t16 t17 t18 hV hVm hW hL hMB he hix hl c2 hE
      refine ⟨z', w', ?_, ?_, fin z' w' a3 a4 a5 a6, a4.2, a5, a6⟩
      · rw [a1, zc_e]
      · unfold fX19_arrives
        rw [s0, if_pos c1, if_neg (fun y => y c2), a2, zc_e, zc_e, if_pos rfl]
    · rw [if_pos c2, zl_e, zd_e, tc]
      have eg : (zc (fX3_goesOn N e x (Int32.ofNat (eN E)) z) fun r15 z16 => if r15 = 0 then (some ((0 : Int32), z16)) else (zl (zgR z16 2 12 e) fun y20 => zd y20 fun a21 => zc (fX3_takeRest N a21 x (zgI z16 11 4 0) z16) fun _ z23 => some (0, z23))) = zgo N e x (Int32.ofNat (eN E)) z := by
        unfold zgo
        cases h : fX3_goesOn N e x (Int32.ofNat (eN E)) z with
        | none => rfl
        | some v =>
          obtain ⟨r, z1⟩ := v
          have f := wX3_goesOn (Nat.and_self _) (zFr_rf _ _) _ _ h
          rw [zc_e, zc_e, zFr_gR f (by decide) (by decide) e, t2, zl_e, zd_e, zFr_gI f (by decide) (by decide) 0, tc]
      rw [eg]
      rcases zp_arrives (N := N) hn tm t16 t17 t18 hV hVm hW (fun y => y.elim (fun y => d0 (Or.inl y)) (fun y => y.elim c1 (fun y => y.elim c2 (fun y => d0 (Or.inr y))))) hN hE with ⟨z', w', a1, a2, a3, a4, a5⟩ | ⟨b1, b2, b3, b4⟩
      · refine ⟨z', w', a1, ?_, fin z' w' a3 (zMB_em hMB a5) a4 (zBe_em a5), (zMB_em hMB a5).2, a4, zBe_em a5⟩
        rw [a2, zc_e, if_pos rfl]
      · obtain ⟨z', w', a1, a2, a3, a4, a5, a6⟩ := zp_beginAgain (N := N) hMB he t16 t17 t18 hbk h44 b2 hE (by omega)
        refine ⟨z', w', b3 z' a1, ?_, fin z' w' a3 a4 a5 a6, a4.2, a5, a6⟩
        rw [b4, zc_e, if_neg (show ¬ (1 : Int32) = 0 by decide)]
        exact a2
