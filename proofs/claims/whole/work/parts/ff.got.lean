/-! a datagram or a piece of one has come to its box: all of the world -/
theorem zDw_full {D : Dg} (h : zDw D) : zDw (dFull D) ∧ df (dFull D) = 0 ∧ dl (dFull D) = dw D ∧ dw (dFull D) = dw D := by
  obtain ⟨h1, h2, h3, h4, h5, h6⟩ := h
  have e1 : df (dFull D) = 0 := rfl
  have e2 : dl (dFull D) = dw D := rfl
  have e3 : dw (dFull D) = dw D := rfl
  exact ⟨⟨by rw [e2]; exact h3, by rw [e1]; rfl, by rw [e3]; exact h3, by rw [e1, e2, e3]; omega, by rw [e3]; exact h5, by rw [e2]; omega⟩, e1, e2, e3⟩
/-- what is whole is itself -/
theorem zc_whole {z : St} {x b N : Nat} {D : Dg} (hx : zPC 14 z x D) (hDw : zDw D) (hl : dl D = dw D) : fX11_putTogether N 0 b x z = some (some x, z) := by
  unfold fX11_putTogether
  rw [hx.1 6 (by omega) (by omega), hx.1 7 (by omega) (by omega), hDw.1, hDw.2.2.1, hl]
  rw [if_neg (by rw [zo_lt (by have := hDw.2.2.2.2.1; omega) (by have := hDw.2.2.2.2.1; omega)]; omega)]
theorem zp_got {z w : St} {T : Tp} {E : Ev} {tl Nm : Nat → Nat} {Wy : Wyt} {u5 : Nat → Prop} {K : Int32 → Int32 → Int32 → Prop} {g : Sg} {R : Rg} {mk : Nat → Nat} {S : Nat → Rs} {Lp : Nat → List Pe} {od : Nat → Nat} {X XM : List Nat} {q b x c N : Nat} {D : Dg} (h : zW1 z w T E tl Nm Wy u5 K g R mk S Lp od X (c :: XM)) (hX : XM.length ≤ 36) (hq : tv T q) (hb : tw T q = b) (hm : mk b < 2147483646) (ho : od b < 2147483647) (hx : x ∈ X) (hxc : zPC 14 z x D) (hPd : zPd T R D) (hDm : zMD w T K c (dPt D (ti T q))) (hrk : (D.1 2 = 2 ∨ D.1 2 = 3 ∨ D.1 2 = 4) → ∃ p, tv T p ∧ p / 8 = q / 8 ∧ tw T p ≠ tw T q ∧ u5 (p / 8) ∧ rK T Nm p D) (hn : eN E ≤ 400000) (hN : 4096 < N) :
    ∃ z6 z' w' g' R' mk' S' Lp' od', fX11_arriveAt_151 N 0 q x (some b) z = some (0, z6) ∧ zTl N b z6 z' ∧ fX19_arrive_147 N 0 q (Int32.ofNat c) w = some (0, w') ∧ zW1 z' w' T E tl Nm Wy u5 K g' R' mk' S' Lp' od' X XM ∧ (∀ v, v ∈ X → (∀ j, j < 15 → zgI z' 7 j v = zgI z 7 j v) ∧ ∀ i, zgA z' 125 v i = zgA z 125 v i) ∧ (∀ d G, d ∈ XM → zMD w T K d G → zMD w' T K d G) ∧ (∀ c n v, R c n = some v → R' c n = some v) ∧ (∀ v, mk' v ≤ mk v + (if v = b then 1 else 0)) ∧ (∀ v, od' v ≤ od v + (if v = b then 1 else 0)) ∧ zUd z z' ∧ (∀ v, v < tb T → ∀ e, e ∈ Lp' v → (∃ e0, e0 ∈ Lp v ∧ peD e = peD e0) ∨ (v = b ∧ peD e = dFull D)) ∧
      ((zJq T z z' w w' ∧ (g' = g ∨ ∃ t, g' = sS g t)) ∨ ∃ z1 w1 g1 u Dc, zJq T z z1 w w1 ∧ (g1 = g ∨ ∃ t, g1 = sS g t) ∧ (Dc = D ∨ (64 ≤ dw Dc ∧ ((∃ e, e ∈ Lp b ∧ peD e = Dc) ∨ Dc = dFull D))) ∧ zTs T E g1 Wy b q u Dc N z1 w1 z' w' g') := by
  obtain ⟨h1, hB, hA, hP, hMs, hQ, hrP, h5⟩ := id h
  have hc := h1.1.1.2.1
  have hT := h1.1.1.1
  have hqb := (hc.2.2.2.2.2.1 q hq).1
  have hbT : b < tb T := by rw [← hb]; exact hqb
  have hDw := hPd.1
  have r18 : zgR w 18 0 q = some b := by rw [(h1.1.2.1.1.2.2.2 q hq).1, hb]
  have c24 : c < 2400 := hDm.1.1
  -- the model's class of kinds, by ports that are up
  have up : ∀ {w' : St}, zAgr 0x20000000000000000000000000000000000000000000000000000000000000000000000000000000000000000000000000000000000000000000000000000000000000000000000000000000000000000000000000000000000000000000000000000000000000000000000000000000000000000000000000000000000000000000000000000000000000000000000000 w w' → (D.1 2 = 2 ∨ D.1 2 = 3 ∨ D.1 2 = 4) → ∀ Dm : Dg, Dm.1 0 = D.1 0 → Dm.1 2 = D.1 2 → Dm.1 7 = D.1 7 → Dm.2 = D.2 → ∃ p, tv T p ∧ p / 8 = q / 8 ∧ tw T p ≠ tw T q ∧ tr T (tw T p) = true ∧ Dm.1 0 = zad p ∧ zRkD (Qg T Nm) T p Dm ∧ (tr T b = true → zgI w' 18 5 q = 1) := fun {w'} ag k Dm m0 m2 m7 mB => by
    obtain ⟨p, p1, p2, p3, p4, p5⟩ := hrk k
    obtain ⟨p6, p7, p8⟩ := p5 k
    exact ⟨p, p1, p2, p3, p7, m0.trans p6, zRkD_cg m2 m7 mB p8, fun hr => (ag.1 18 5 q (by decide) (by decide) (by decide)).trans (h5 (p / 8) p4 q hq p2.symm (by rw [hb]; exact hr))⟩
  have e3 : ∀ {β : Type} (k : Option β), zk (3 : Int32) 8 k = k := fun k => zkk (i := 3) (by decide) (by decide) k
  have cgo : ∀ u zz, fX11_putTogether N 0 b x z = some (some u, zz) → fX11_arriveAt_151 N 0 q x (some b) z = fHd N q u b (zsA zz 113 b 3 (zgA zz 113 b 3 + 1)) := fun u zz e => by
    unfold fX11_arriveAt_151
    rw [zd_e, e, zc_e, zo_e, e3, e3, zl_e]; rfl
  by_cases hw : dl D = dw D
  · -- it is whole
    have hf : df D = 0 := by have := hDw.2.2.2.1; omega
    obtain ⟨z6, z', w1, w', g', R', mk', S', a1, a2, a3, a4, a5, a6, a7, a8, a9, b1, b2⟩ := zp_look (N := N) (u := x) (Dc := D) h hX hq hb hm (Or.inr hx) ⟨fun j hj h8 => hxc.1 j (by omega) h8, hxc.2⟩ hf hw hDw hPd.2.2.2.2.2.2 hDm rfl rfl rfl rfl rfl (fun k => up (zAgr_rf _ _) k _ rfl rfl rfl rfl) hn hN
    have g0 : fX19_get N 0 b (Int32.ofNat c) w = some (0, w1) := by
      unfold fX19_get
      have m8 : md w c 8 = zbi (decide (dl (dPt D (ti T q)) < dw (dPt D (ti T q)))) := hDm.2.1.2.2.2.1
      have o8 : fX19_of N 0 (Int32.ofNat c) 8 w = some (md w c 8, w) := zm_of (k := 8) c24 (by omega)
      rw [o8, zc_e, m8, show decide (dl (dPt D (ti T q)) < dw (dPt D (ti T q))) = false from decide_eq_false (show ¬ dl D < dw D by omega), if_neg (by decide), a3, zc_e]
    refine ⟨z6, z', w', g', R', mk', S', Lp, od, (cgo x z (zc_whole hxc hDw hw)).trans a1, a2, ?_, a5, a6, a7, a8, a9, fun v => by omega, b1, fun v _ e he => Or.inl ⟨e, he, rfl⟩, ?_⟩
    · unfold fX19_arrive_147 fX19_arrive_206
      rw [r18, zl_e, zd_e, g0, zc_e, a4, zc_e]
    · rcases b2 with y | y
      · exact Or.inl y
      · exact Or.inr ⟨z, w, g, x, D, zJq_rf hT, Or.inl rfl, Or.inl rfl, y⟩
  · -- a piece
    have hpart : dl D < dw D := by have := hDw.2.2.2.1; omega
    obtain ⟨z1, w1, L', ord', t, cs, a2, a3, a4, a5, a6, a7, a8, a9, a10⟩ := zIp_pieces (N := N) h1 hP hbT ho hx ⟨fun j hj h8 => hxc.1 j (by omega) h8, hxc.2⟩ hPd hDm (fun j hj => dPt_n hj) hpart (by omega)
    have TA1 : zTA w1 T = zTA w T := zTA_cg (fun c k _ _ => zFr_gA a7 (by decide) c k)
    have TB1 : zTB w1 T = zTB w T := zTB_cg (fun j v hj => by rcases hj with rfl | rfl <;> exact zFr_gI a7 (by decide) (by decide) v)
    have hrP' : ∀ v, v < tb T → rP T Nm (zupd Lp b L' v) := fun v hv => by
      by_cases e : v = b
      · subst e
        rw [zupd_s]
        intro e he
        rcases a10 e he with ⟨e0, y1, y2⟩ | y
        · rw [y2]; exact hrP v hv e0 y1
        · rw [y]
          by_cases kk : D.1 2 = 2 ∨ D.1 2 = 3 ∨ D.1 2 = 4
          · obtain ⟨p, p1, -, -, -, p5⟩ := hrk kk
            exact ⟨p, p1, rK_cg rfl rfl rfl rfl p5⟩
          · exact ⟨q, hq, fun y => absurd y kk⟩
      · rw [zupd_n e]; exact hrP v hv
    have W1 : zW1 z1 w1 T E tl Nm Wy u5 K (sS g t) R mk S (zupd Lp b L') (zupd od b ord') X (c :: XM) := ⟨by rw [TA1, TB1]; exact a2, zB44_a (zAgr_fr a6 (by decide)) (zAgr_fr a7 (by decide)) hB, zWa_a hc (zAgr_fr a6 (by decide)) (zAgr_fr a7 (by decide)) hA, a3, zMs_a (zAgr_fr a6 (by decide)) (zAgr_fr a7 (by decide)) hMs, zQI_cg rfl rfl rfl hQ, hrP', zU5_a (zAgr_fr a7 (by decide)) h5⟩
    have J1 : zJq T z z1 w w1 := ⟨zS4_fr (zS4_rf hT) a6 (by decide) (by decide), zAgr_fr a6 (by decide), zAgr_fr a7 (by decide)⟩
    have U1 : zUd z z1 := zUd_fr (zUd_rf z) a6 (by decide)
    have odb : ∀ v, zupd od b ord' v ≤ od v + (if v = b then 1 else 0) := fun v => by
      by_cases e : v = b
      · rw [e, zupd_s, if_pos rfl]; omega
      · rw [zupd_n e]; omega
    have pcs : ∀ v, v < tb T → ∀ e, e ∈ zupd Lp b L' v → (∃ e0, e0 ∈ Lp v ∧ peD e = peD e0) ∨ (v = b ∧ peD e = dFull D) := fun v _ e he => by
      by_cases y : v = b
      · subst y
        rw [zupd_s] at he
        exact (a10 e he).imp id (fun k => ⟨rfl, k⟩)
      · rw [zupd_n y] at he; exact Or.inl ⟨e, he, rfl⟩
    have X0 := zIp_Xn h1
    have kx : ∀ v, v ∈ X → (∀ j, j < 15 → zgI z1 7 j v = zgI z 7 j v) ∧ ∀ i, zgA z1 125 v i = zgA z 125 v i := fun v hv => ⟨fun j _ => (a9 v (X0 v hv).2).1 j, (a9 v (X0 v hv).2).2⟩
    have r18' : zgR w 18 0 q = some b := r18
    rcases cs with ⟨u, D1, u1, u2, q1, q2, q3, q4, q5, q6, q7, q8⟩ | ⟨q1, q2⟩
    · obtain ⟨s0, s1, s2, s3⟩ := dSb_iff.mp q4
      obtain ⟨-, -, r7, rD⟩ := zPd_same hc q3 hPd s0 s3
      obtain ⟨F1, F2, F3, F4⟩ := zDw_full q3.1
      have ew : dw D1 = dw D := by unfold dw; rw [r7]
      have hb16 : b < 16 := Nat.lt_of_lt_of_le hbT hc.1
      obtain ⟨z6, z', w2, w', g', R', mk', S', b1, b2, b3, b4, b5, b6, b7, b8, b9, c1, c2⟩ := zp_look (N := N) (u := u) (Dc := dFull D1) W1 hX hq hb hm (Or.inl ⟨by omega, by omega⟩) ⟨fun j hj h8 => q5 j (by omega) h8, fun i hi => by
        rw [F3, ew] at hi
        rw [q6 i hi, F2]
        show D.2 i = D1.2 (0 + i)
        rw [rD, Nat.zero_add]⟩ F2 (F3.trans F4.symm) F1 (fun y => by rw [F4]; exact q3.2.2.2.2.2.2 y) (zMD_fr (M := 0) a8 (by simp) hDm) rfl s0.symm s2.symm rD.symm (show dw D = dw D1 from ew.symm) (fun k => by
        have k' : D.1 2 = 2 ∨ D.1 2 = 3 ∨ D.1 2 = 4 := by rw [← s2]; exact k
        exact up (zAgr_fr a7 (by decide)) k' _ rfl rfl rfl rfl) hn hN
      refine ⟨z6, z', w', g', R', mk', S', _, _, (cgo u z1 q1).trans b1, b2, ?_, b5, fun v hv => ⟨fun j hj => ((b6 v hv).1 j hj).trans ((kx v hv).1 j hj), fun i => ((b6 v hv).2 i).trans ((kx v hv).2 i)⟩, fun d G hd hG => b7 d G hd (zMD_fr (M := 0) a8 (List.mem_cons_of_mem _ hd) hG), b8, b9, odb, zUd_tr U1 c1, pcs, ?_⟩
      · unfold fX19_arrive_147 fX19_arrive_206
        rw [r18, zl_e, zd_e, q2, b3, zc_e, zc_e, b4, zc_e]
      · rcases c2 with ⟨y1, y2⟩ | y
        · refine Or.inl ⟨zJq_tr J1 y1, ?_⟩
          rcases y2 with y | ⟨t2, y⟩
          · exact Or.inr ⟨t, y⟩
          · exact Or.inr ⟨t2, y⟩
        · refine Or.inr ⟨z1, w1, sS g t, u, dFull D1, J1, Or.inr ⟨t, rfl⟩, Or.inr ⟨by rw [F4, ew]; exact q7, ?_⟩, y⟩
          rcases q8 with y | ⟨e, y1, y2⟩
          · exact Or.inr (by rw [y])
          · exact Or.inl ⟨e, y1, y2⟩
    · obtain ⟨w', b1, b2, b3, b4⟩ := zW1_drop (N := N) W1
      have i15 : zgI z1 11 15 0 = 0 := by
        obtain ⟨⟨-, -, -, -, -, -, -, p10⟩, -⟩ := a2
        exact p10
      refine ⟨z1, z1, w', sS g t, R, mk, S, _, _, ?_, Or.inl ⟨i15, rfl⟩, ?_, b2, kx, fun d G hd hG => b4 d G hd (zMD_fr (M := 0) a8 (List.mem_cons_of_mem _ hd) hG), fun _ _ _ y => y, fun v => by omega, odb, U1, pcs, Or.inl ⟨zJq_tr J1 (zJq_q (zQt_drop W1.1.1.1.1 b3)), Or.inr ⟨t, rfl⟩⟩⟩
      · unfold fX11_arriveAt_151
        rw [zd_e, q1, zc_e]; rfl
      · unfold fX19_arrive_147 fX19_arrive_206
        rw [r18, zl_e, zd_e, q2, zc_e, b1, zc_e]
