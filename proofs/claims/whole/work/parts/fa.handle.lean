/-! what is whole is looked at: both sides -/
/-- the class, behind putting together -/
def fHd (N q u b : Nat) (z : St) : Option (Int32 × St) := if ¬ (zgI z 7 2 u) = 0 then (if (zgI z 1 1 b) = 0 then (if ¬ (zgI z 7 2 u) = (1 : Int32) then (some ((0 : Int32), z)) else (zc (fX11_takeSegment N 0 q u z) fun _ z15 => some ((0 : Int32), z15))) else (zc (fX11_takeAsRouter N 0 q u z) fun _ z19 => some ((0 : Int32), z19))) else (zc (fX11_errorCame N 0 b u z) fun _ z23 => some ((0 : Int32), z23))
/-- the outcome -/
def zHdO (z w : St) (T : Tp) (E : Ev) (g : Sg) (Wy : Wyt) (R : Rg) (mk tl Nm : Nat → Nat) (S : Nat → Rs) (K : Int32 → Int32 → Int32 → Prop) (X XM TA : List Nat) (q b u : Nat) (Dc : Dg) (N : Nat) (c m : Option (Int32 × St)) : Prop :=
  (∃ z' w', c = some (0, z') ∧ m = some (0, w') ∧ zIp z' w' T E g g Wy R mk K X XM [] (zTA w' T) (zTB w' T) ∧ zQt T z z' w w' ∧ zK7 z z' ∧ zKm XM w w') ∨
  (∃ z' w' s' t, tr T b = true ∧ c = some (0, z') ∧ m = some (0, w') ∧ (t = gS g ∨ t = eN E) ∧ zIp z' w' T E (sS g t) (sS g t) Wy R mk K X XM [] (zTA w' T) (zTB w' T) ∧ zWa z' w' T E tl Nm Wy (zupd S b s') ∧ zFr (mX11_takeAsRouter ||| 0x200000000000000000000000000000000000000000000000000000000000000000000000000000000000000000000000000000000000000000000000000000000000000000000000000000000000000000000000000000000000000000000000000000000000000000000000000000000000000000000000000000000000000000000000000000000000000000000000000000000000000000000000000000000000) z z' ∧ zFr (mX19_handle_100 ||| 0x20000000000000000000000000000000000000000000000000000000000000000000000000000000000000000000000000000000000000000000000000000000000000000000000000000000000000000000000000000000000000000000000000) w w' ∧ zK7 z z' ∧ zKm XM w w') ∨
  (∃ z1 w1 zh s, tr T b = false ∧ Dc.1 2 = 1 ∧ s < 2400 ∧ (zQt T z z1 w w1 ∧ zK7 z z1 ∧ zKm XM w w1) ∧ fX7_readHead N u z1 = some (0, zh) ∧ zIp zh w1 T E g g Wy R mk K X XM [] TA (zTB w1 T) ∧ zSgC zh u (vOf Dc) ∧ zSgM w1 s (vOf Dc) ∧ (∀ k j o, ¬ (k = 7 ∧ o = u ∧ 15 ≤ j ∧ j ≤ 19) → zgI zh k j o = zgI z1 k j o) ∧ (∀ k o i, zgA zh k o i = zgA z1 k o i) ∧ (∀ k o i, zgL zh k o i = zgL z1 k o i) ∧ zSgO z1 zh w1 T E g Wy R mk K X XM [] TA b q u s (vOf Dc) (g2 Dc.2 2) (Dc.1 0) (g2 Dc.2 0) N (fX11_takeSegment N 0 q u z1) (fX19_segment N 0 b (Int32.ofNat s) (Dc.1 0) w1) ∧ c = (zc (fX11_takeSegment N 0 q u z1) fun _ z15 => some ((0 : Int32), z15)) ∧ m = (zc (fX19_segment N 0 b (Int32.ofNat s) (Dc.1 0) w1) fun _ z18 => some (0, z18)))
theorem zm_hdNo {w : St} {b N : Nat} {x2 k : Int32} (h : zgI w 12 1 b = 0 ∨ (¬ k = 2 ∧ ¬ k = 3 ∧ ¬ k = 4)) : fX19_handle_100 N 0 b x2 k w = some (0, w) := by
  have h162 : fX19_handle_162 N 0 b x2 k w = some (0, w) := by
    unfold fX19_handle_162
    by_cases c : k = 4
    · rw [if_neg (fun y => y c), if_pos (h.resolve_right (fun y => y.2.2 c))]
    · rw [if_pos c]
  have h141 : fX19_handle_141 N 0 b x2 k w = some (0, w) := by
    unfold fX19_handle_141
    by_cases c : k = 3
    · rw [if_neg (fun y => y c), if_pos (h.resolve_right (fun y => y.2.1 c))]; exact h162
    · rw [if_pos c]; exact h162
  unfold fX19_handle_100
  by_cases c : k = 2
  · rw [if_neg (fun y => y c), if_pos (h.resolve_right (fun y => y.1 c))]; exact h141
  · rw [if_pos c]; exact h141
theorem zp_handle {z w : St} {T : Tp} {E : Ev} {g : Sg} {Wy : Wyt} {R : Rg} {mk tl Nm : Nat → Nat} {S : Nat → Rs} {K : Int32 → Int32 → Int32 → Prop} {X XM : List Nat} {q b u d N : Nat} {D Dc : Dg} (hp : zIp z w T E g g Wy R mk K X XM [] (zTA w T) (zTB w T)) (hI : ∀ u, hEnd T u → zIx (zgI w 14 44 u) 2592 ∧ zIx (zgI w 14 45 u) 2592) (h44 : ∀ e, hEnd T e → zgI z 2 0 e = 2 → ∃ bk, bk < 2592 ∧ zgI w 14 44 e = Int32.ofNat bk) (hMs : zMs z w T) (hA : zWa z w T E tl Nm Wy S) (hX : XM.length ≤ 38) (hq : tv T q) (hb : tw T q = b) (hm : mk b < 2147483646) (hu : (515 ≤ u ∧ u < 579) ∨ u ∈ X) (hxc : zPC 10 z u Dc) (hf : df Dc = 0) (hl : dl Dc = dw Dc) (hDw : zDw Dc) (h20 : Dc.1 2 = 1 ∨ Dc.1 2 = 0 → 20 ≤ dw Dc) (hd : d ∈ XM) (hDm : zMD w T K d D) (h9 : D.1 10 = Int32.ofNat (ti T q)) (h0 : D.1 0 = Dc.1 0) (h2 : D.1 2 = Dc.1 2) (eB : D.2 = Dc.2) (ew : dw D = dw Dc) (hrk : (Dc.1 2 = 2 ∨ Dc.1 2 = 3 ∨ Dc.1 2 = 4) → ∃ p, tv T p ∧ p / 8 = q / 8 ∧ tw T p ≠ tw T q ∧ tr T (tw T p) = true ∧ D.1 0 = zad p ∧ zRkD (Qg T Nm) T p D ∧ (tr T b = true → zgI w 18 5 q = 1)) (hn : eN E ≤ 400000) (hN : 4096 < N) :
    zHdO z w T E g Wy R mk tl Nm S K X XM (zTA w T) q b u Dc N (fHd N q u b (zsA z 113 b 3 (zgA z 113 b 3 + 1))) (fX19_handle N 0 b (Int32.ofNat d) w) := by
  have hc := hp.1.1.2.1
  obtain ⟨hqb, hti, htq⟩ := hc.2.2.2.2.2.1 q hq
  have hbT : b < tb T := by rw [← hb]; exact hqb
  have hd24 : d < 2400 := hDm.1.1
  have P1 := zIp_tally (b := b) (k := 3) (j := 5) (by omega) hp
  have Q1 := zQt_tally (z := z) (w := w) (b := b) (k := 3) (j := 5) hp.1.1.1 (by omega)
  obtain ⟨za, hza⟩ : ∃ u, u = zsA z 113 b 3 (zgA z 113 b 3 + 1) := ⟨_, rfl⟩
  obtain ⟨wa, hwa⟩ : ∃ u, u = zsI w 12 5 b (zgI w 12 5 b + 1) := ⟨_, rfl⟩
  rw [← hza, ← hwa] at P1 Q1
  have mda : ∀ k, md wa d k = md w d k := fun k => by rw [hwa]; rfl
  have mdd : ∀ d k, md wa d k = md w d k := fun d k => by rw [hwa]; rfl
  have gAw : ∀ k o i, zgA wa k o i = zgA w k o i := fun k o i => by rw [hwa]; rfl
  have gLw : ∀ k o i, zgL wa k o i = zgL w k o i := fun k o i => by rw [hwa]; rfl
  have gIw : ∀ k j o, ¬ (k = 12 ∧ j = 5) → zgI wa k j o = zgI w k j o := fun k j o n => by rw [hwa, zgI_sI, if_neg (fun y => n ⟨y.1, y.2.1⟩)]
  have gIz : ∀ k j o, zgI za k j o = zgI z k j o := fun k j o => by rw [hza]; rfl
  have gAz : ∀ k o i, ¬ k = 113 → zgA za k o i = zgA z k o i := fun k o i n => by rw [hza, zgA_sA, if_neg (fun y => n y.1)]
  have TAa : zTA wa T = zTA w T := zTA_cg (fun c k _ _ => gAw 150 c k)
  have TBa : zTB wa T = zTB w T := zTB_cg (fun j v hj => gIw 14 j v (by omega))
  have hDa : zMD wa T K d D := zMD_cg hd24 (fun k _ => mda k) (fun k i => gAw 174 k i) (fun k i => gLw 175 k i) (fun k i => gAw 178 k i) rfl (fun _ _ => rfl) hDm
  have hxa : zPC 10 za u Dc := ⟨fun j hj h8 => (gIz 7 j u).trans (hxc.1 j hj h8), fun i hi => (gAz 125 u i (by decide)).trans (hxc.2 i hi)⟩
  have hIa : ∀ v, hEnd T v → zIx (zgI wa 14 44 v) 2592 ∧ zIx (zgI wa 14 45 v) 2592 := fun v hv => by rw [gIw 14 44 v (by omega), gIw 14 45 v (by omega)]; exact hI v hv
  have K7a : zK7 z za := fun v => ⟨fun j _ => gIz 7 j v, fun i => gAz 125 v i (by decide)⟩
  have Kma : zKm XM w wa := ⟨fun d k _ _ => mdd d k, fun k i => gAw 174 k i, fun k i => gAw 178 k i, gLw⟩
  have o2 : fX19_of N 0 (Int32.ofNat d) 2 wa = some (Dc.1 2, wa) := by
    have := zm_of (w := wa) (N := N) (k := 2) hd24 (by omega)
    rw [hDa.1.2.2.2.1, h2] at this; exact this
  have e3 : ∀ {β : Type} (k : Option β), zk (3 : Int32) 8 k = k := fun k => zkk (i := 3) (by decide) (by decide) k
  have kz : zgI za 7 2 u = Dc.1 2 := hxa.1 2 (by omega) (by omega)
  have b1 := (P1.1.1.1.2.1.2 b hbT).2.2.1
  have b1m := (P1.1.2.1.1.2.1.2 b hbT).2.2.1
  have hm' : fX19_handle N 0 b (Int32.ofNat d) w = (if ¬ Dc.1 2 = 0 then (if ¬ Dc.1 2 = (1 : Int32) then (fX19_handle_100 N 0 b (Int32.ofNat d) (Dc.1 2) wa) else (if ¬ (zgI wa 12 1 b) = 0 then (fX19_handle_100 N 0 b (Int32.ofNat d) (Dc.1 2) wa) else (zc (fX19_of N 0 (Int32.ofNat d) (10 : Int32) wa) fun r9 z10 => zc (fX19_of N 0 (Int32.ofNat d) (0 : Int32) z10) fun r13 z14 => zc (fX19_segment N 0 b r9 r13 z14) fun _ z18 => some (0, z18)))) else (zl (zsI wa 12 9 b ((zgI wa 12 9 b) + (1 : Int32))) fun z21 => zc (fX19_of N 0 (Int32.ofNat d) (14 : Int32) z21) fun r22 z23 => zc (fX19_of N 0 (Int32.ofNat d) (15 : Int32) z23) fun r26 z27 => zc (fX19_of N 0 (Int32.ofNat d) (16 : Int32) z27) fun r30 z31 => zc (fX19_of N 0 (Int32.ofNat d) (17 : Int32) z31) fun r34 z35 => zc (fX19_act N 0 b r22 r26 r30 r34 z35) fun _ z39 => some (0, z39))) := by
    unfold fX19_handle
    rw [zl_e, ← hwa, o2, zc_e]
  rw [← hza, hm']
  unfold fHd
  rw [kz, b1, b1m]
  by_cases k0 : Dc.1 2 = 0
  · -- an error
    rw [if_neg (fun y => y k0), if_neg (fun y => y k0)]
    have P1' : zIp za wa T E g g Wy R mk K X XM [] (zTA w T) (zTB w T) := P1
    obtain ⟨z', w', r1, r2, r3, r4, r5, r6⟩ := zp_errorCame (N := N) P1' hbT hxa hf (by have := h20 (Or.inr k0); omega) hd hDa (h2.trans k0) eB (by omega)
    refine Or.inl ⟨z', w', by rw [r1, zc_e], r2, ?_, zQt_tr Q1 r4, zK7_tr K7a r5, zKm_tr Kma r6⟩
    rw [zTA_cg (w := w) (fun c k _ _ => (zFr_gA r4.2.2.2 (by decide) c k).trans (gAw 150 c k)), zTB_cg (w := w) (fun j v hj => by
      rcases hj with rfl | rfl <;> exact (zFr_gI r4.2.2.2 (by decide) (by decide) v).trans (gIw 14 _ v (by omega)))]
    exact r3
  · rw [if_pos k0, if_pos k0]
    by_cases hr : tr T b = true
    · -- a router
      rw [hr, if_neg (show ¬ (zbi true : Int32) = 0 by decide)]
      have mgo : (if ¬ Dc.1 2 = (1 : Int32) then (fX19_handle_100 N 0 b (Int32.ofNat d) (Dc.1 2) wa) else (if ¬ (zbi true : Int32) = 0 then (fX19_handle_100 N 0 b (Int32.ofNat d) (Dc.1 2) wa) else (zc (fX19_of N 0 (Int32.ofNat d) (10 : Int32) wa) fun r9 z10 => zc (fX19_of N 0 (Int32.ofNat d) (0 : Int32) z10) fun r13 z14 => zc (fX19_segment N 0 b r9 r13 z14) fun _ z18 => some (0, z18)))) = fX19_handle_100 N 0 b (Int32.ofNat d) (Dc.1 2) wa := by
        by_cases k1 : Dc.1 2 = 1
        · rw [if_neg (fun y => y k1), if_pos (by decide)]
        · rw [if_pos k1]
      rw [mgo]
      by_cases kk : Dc.1 2 = 2 ∨ Dc.1 2 = 3 ∨ Dc.1 2 = 4
      · obtain ⟨p, q1, q2, q3, q4, q5, q6, q7⟩ := hrk kk
        have hA1 : zWa za wa T E tl Nm Wy S := zWa_a hc (zAgr_fr Q1.1 (by decide)) (zAgr_fr Q1.2.2.2 (by decide)) hA
        have P1' : zIp za wa T E g g Wy R mk K X XM [] (zTA wa T) (zTB wa T) := by rw [TAa, TBa]; exact P1
        obtain ⟨z', w', s', t, r1, r2, r3, r4, r5, r6, r7, r8, r9⟩ := zp_hdR (N := N) (d := d) (x := u) P1' hn hq q1 q2 q4 (by rw [hb]; exact hr) q3 hxa hf (hl.trans ew.symm) h0.symm h2.symm eB.symm q5 q6 hd hDa h9 (by have := zMB_len (⟨P1'.1.2.1, hIa⟩ : zMB wa T E g K XM [] (zTA wa T)); simp; omega) ((gIw 18 5 q (by omega)).trans (q7 hr)) hA1 (by omega)
        rw [hb] at r2 r4
        have r2 : fX19_handle_100 N 0 b (Int32.ofNat d) (Dc.1 2) wa = some (0, w') := by rw [← h2]; exact r2
        have fz : zFr (mX11_takeAsRouter ||| 0x200000000000000000000000000000000000000000000000000000000000000000000000000000000000000000000000000000000000000000000000000000000000000000000000000000000000000000000000000000000000000000000000000000000000000000000000000000000000000000000000000000000000000000000000000000000000000000000000000000000000000000000000000000000000) z z' := zFr_tr (zFr_w (m := 0x200000000000000000000000000000000000000000000000000000000000000000000000000000000000000000000000000000000000000000000000000000000000000000000000000000000000000000000000000000000000000000000000000000000000000000000000000000000000000000000000000000000000000000000000000000000000000000000000000000000000000000000000000000000000) (by rw [hza]; exact zFr_A (zFr_rf _ _) (by decide)) (by decide)) (zFr_w r5 (by decide))
        have fw : zFr (mX19_handle_100 ||| 0x20000000000000000000000000000000000000000000000000000000000000000000000000000000000000000000000000000000000000000000000000000000000000000000000000000000000000000000000000000000000000000000000000) w w' := zFr_tr (zFr_w (m := 0x20000000000000000000000000000000000000000000000000000000000000000000000000000000000000000000000000000000000000000000000000000000000000000000000000000000000000000000000000000000000000000000000000) (by rw [hwa]; exact zFr_I (zFr_rf _ _) (by decide)) (by decide)) (zFr_w r6 (by decide))
        have TB' : zTB w' T = zTB wa T := zTB_cg (fun j v hj => by rcases hj with rfl | rfl <;> exact zFr_gI r6 (by decide) (by decide) v)
        refine Or.inr (Or.inl ⟨z', w', s', t, hr, by rw [r1, zc_e], r2, ?_, by rw [TB']; exact r3, r4, fz, fw, ?_, ?_⟩)
        · exact r8
        · exact zK7_tr K7a r9
        · exact zKm_tr Kma r7
      · -- nothing
        have n2 : ¬ Dc.1 2 = 2 := fun y => kk (Or.inl y)
        have n3 : ¬ Dc.1 2 = 3 := fun y => kk (Or.inr (Or.inl y))
        have n4 : ¬ Dc.1 2 = 4 := fun y => kk (Or.inr (Or.inr y))
        refine Or.inl ⟨za, wa, ?_, zm_hdNo (Or.inr ⟨n2, n3, n4⟩), by rw [TAa, TBa]; exact P1, Q1, K7a, Kma⟩
        unfold fX11_takeAsRouter
        rw [kz, if_pos n2, if_pos n3, if_pos n4, zc_e]
    · -- a host
      have hr' : tr T b = false := by simpa using hr
      rw [hr', if_pos (show (zbi false : Int32) = 0 from rfl)]
      by_cases k1 : Dc.1 2 = 1
      · rw [if_neg (fun y => y k1), if_neg (fun y => y k1), if_neg (fun y => y rfl)]
        obtain ⟨s, s24, s10, -⟩ := hDa.2.2.1 (h2.trans k1)
        have o10 : fX19_of N 0 (Int32.ofNat d) 10 wa = some (Int32.ofNat s, wa) := by
          have := zm_of (w := wa) (N := N) (k := 10) hd24 (by omega)
          rw [s10] at this; exact this
        have o0 : fX19_of N 0 (Int32.ofNat d) 0 wa = some (Dc.1 0, wa) := by
          have := zm_of (w := wa) (N := N) (k := 0) hd24 (by omega)
          rw [hDa.1.2.1, h0] at this; exact this
        rw [o10, zc_e, o0, zc_e]
        obtain ⟨Ds, eDs⟩ : ∃ Ds : Dg, Ds = ((fun j => if j = 10 then zgI za 7 10 u else Dc.1 j, Dc.2) : Dg) := ⟨_, rfl⟩
        have fD : ∀ j, j ≠ 10 → Ds.1 j = Dc.1 j := fun j hj => by rw [eDs]; exact if_neg hj
        have bD : Ds.2 = Dc.2 := by rw [eDs]
        have dfD : df Ds = df Dc := by unfold df; rw [fD 5 (by decide)]
        have dlD : dl Ds = dl Dc := by unfold dl; rw [fD 6 (by decide)]
        have dwD : dw Ds = dw Dc := by unfold dw; rw [fD 7 (by decide)]
        have vD : vOf Ds = vOf Dc := by unfold vOf; rw [bD, dwD]
        have hxs : zPC 11 za u Ds := ⟨fun j hj h8 => by
          by_cases c : j = 10
          · rw [c, eDs]; rfl
          · rw [fD j c]; exact hxa.1 j (by omega) h8, fun i hi => by rw [bD, dfD]; rw [dlD] at hi; exact hxa.2 i hi⟩
        have DwS : zDw Ds := by
          obtain ⟨w1, w2, w3, w4, w5, w6⟩ := hDw
          exact ⟨by rw [fD 6 (by decide), dlD]; exact w1, by rw [fD 5 (by decide), dfD]; exact w2, by rw [fD 7 (by decide), dwD]; exact w3, by rw [dfD, dlD, dwD]; exact w4, by rw [dwD]; exact w5, by rw [dlD]; exact w6⟩
        have Pa : zIp za wa T E g g Wy R mk K X XM [] (zTA w T) (zTB wa T) := by rw [TBa]; exact P1
        obtain ⟨zh, a1, a2, a3, a4, a5, a6, a7, a8⟩ := zp_segment (N := N) (D := Ds) (D' := D) (s := s) (d := d) Pa hIa (fun e he q => by
          obtain ⟨bk, k1, k2⟩ := h44 e he ((gIz 2 0 e).symm.trans q)
          exact ⟨bk, k1, (gIw 14 44 e (by omega)).trans k2⟩) (fun e he q => by
          obtain ⟨m, m1, m2, m3⟩ := hMs.2.1 e he ((gIz 2 0 e).symm.trans q)
          exact ⟨m, m2, (gIz 2 4 e).trans m3⟩) hX hq hb hr' hm hu hxs (dfD.trans hf) (by rw [dlD, dwD]; exact hl) DwS (by rw [dwD]; exact h20 (Or.inl k1)) hd hDa (h2.trans k1) (by rw [bD]; exact eB) (by rw [dwD]; exact ew) s10 s24 hn (by simp) (by have := zTA_len w T; simp; omega) hN
        rw [vD] at a3 a4 a8
        rw [bD, fD 0 (by decide)] at a8
        exact Or.inr (Or.inr ⟨za, wa, zh, s, hr', k1, s24, ⟨Q1, K7a, Kma⟩, a1, a2, a3, a4, a5, a6, a7, a8, rfl, rfl⟩)
      · rw [if_pos k1, if_pos k1]
        exact Or.inl ⟨za, wa, rfl, zm_hdNo (Or.inl (b1m.trans (by rw [hr']; rfl))), by rw [TAa, TBa]; exact P1, Q1, K7a, Kma⟩
