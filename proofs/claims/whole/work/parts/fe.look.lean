/-! what is whole is looked at, and the model's copy dropped: all of the world -/
theorem zIp_Xn {z w : St} {T : Tp} {E : Ev} {g : Sg} {Wy : Wyt} {R : Rg} {mk : Nat → Nat} {K : Int32 → Int32 → Int32 → Prop} {X XM TS TA TB : List Nat} (hp : zIp z w T E g g Wy R mk K X XM TS TA TB) : ∀ v, v ∈ X → 2 ≤ v ∧ v < 515 := by
  obtain ⟨⟨p1, -⟩, -⟩ := hp
  obtain ⟨-, -, -, -, ⟨-, -, t3⟩, -⟩ := p1
  exact zX1 t3
theorem zp_look {z w : St} {T : Tp} {E : Ev} {tl Nm : Nat → Nat} {Wy : Wyt} {u5 : Nat → Prop} {K : Int32 → Int32 → Int32 → Prop} {g : Sg} {R : Rg} {mk : Nat → Nat} {S : Nat → Rs} {Lp : Nat → List Pe} {od : Nat → Nat} {X XM : List Nat} {q b u c N : Nat} {D Dc : Dg} (h : zW1 z w T E tl Nm Wy u5 K g R mk S Lp od X (c :: XM)) (hX : XM.length ≤ 36) (hq : tv T q) (hb : tw T q = b) (hm : mk b < 2147483646) (hu : (515 ≤ u ∧ u < 579) ∨ u ∈ X) (hxc : zPC 10 z u Dc) (hf : df Dc = 0) (hl : dl Dc = dw Dc) (hDw : zDw Dc) (h20 : Dc.1 2 = 1 ∨ Dc.1 2 = 0 → 20 ≤ dw Dc) (hDm : zMD w T K c D) (h9 : D.1 10 = Int32.ofNat (ti T q)) (h0 : D.1 0 = Dc.1 0) (h2 : D.1 2 = Dc.1 2) (eB : D.2 = Dc.2) (ew : dw D = dw Dc) (hrk : (Dc.1 2 = 2 ∨ Dc.1 2 = 3 ∨ Dc.1 2 = 4) → ∃ p, tv T p ∧ p / 8 = q / 8 ∧ tw T p ≠ tw T q ∧ tr T (tw T p) = true ∧ D.1 0 = zad p ∧ zRkD (Qg T Nm) T p D ∧ (tr T b = true → zgI w 18 5 q = 1)) (hn : eN E ≤ 400000) (hN : 4096 < N) :
    ∃ z6 z' w1 w' g' R' mk' S', fHd N q u b (zsA z 113 b 3 (zgA z 113 b 3 + 1)) = some (0, z6) ∧ zTl N b z6 z' ∧ fX19_handle N 0 b (Int32.ofNat c) w = some (0, w1) ∧ fX19_drop N 0 (Int32.ofNat c) w1 = some (0, w') ∧ zW1 z' w' T E tl Nm Wy u5 K g' R' mk' S' Lp od X XM ∧ (∀ v, v ∈ X → (∀ j, j < 15 → zgI z' 7 j v = zgI z 7 j v) ∧ ∀ i, zgA z' 125 v i = zgA z 125 v i) ∧ (∀ d G, d ∈ XM → zMD w T K d G → zMD w' T K d G) ∧ (∀ c n v, R c n = some v → R' c n = some v) ∧ (∀ v, mk' v ≤ mk v + (if v = b then 1 else 0)) ∧ zUd z z' ∧ ((zJq T z z' w w' ∧ (g' = g ∨ ∃ t, g' = sS g t)) ∨ zTs T E g Wy b q u Dc N z w z' w' g') := by
  obtain ⟨h1, hB, hA, hP, hMs, hQ, hrP, h5⟩ := id h
  have hc := h1.1.1.2.1
  have hqb := (hc.2.2.2.2.2.1 q hq).1
  have hbT : b < tb T := by rw [← hb]; exact hqb
  have X0 := zIp_Xn h1
  have hT := h1.1.1.1
  rcases zp_handle (N := N) (u := u) (d := c) h1 hB.1 (fun e he y => by obtain ⟨bk, y1, y2, -⟩ := hB.2 e he y; exact ⟨bk, y1, y2⟩) hMs hA (by simp; omega) hq hb hm hu hxc hf hl hDw h20 (by simp) hDm h9 h0 h2 eB ew hrk hn hN with ⟨z1, w1, a1, a2, a3, a4, a5, a6⟩ | ⟨z1, w1, s', t, hr, a1, a2, ht, a3, a4, a5, a6, a7, a8⟩ | ⟨z1, w1, zh, s, hr, k1, s24, ⟨a1, a12, a13⟩, a2, a3, a4, a5, a6, a7, a8, a9, a10, a11⟩
  · -- nothing but the error
    have W1 := zW1_q h a4 a3 (fun _ _ _ y => y) hQ
    obtain ⟨w', b1, b2, b3, b4⟩ := zW1_drop (N := N) W1
    have i15 : zgI z1 11 15 0 = 0 := by
      obtain ⟨⟨-, -, -, -, -, -, -, p10⟩, -⟩ := a3
      exact p10
    exact ⟨z1, z1, w1, w', g, R, mk, S, a1, Or.inl ⟨i15, rfl⟩, a2, b1, b2, fun v _ => a5 v, fun d G hd hG => b4 d G hd (zMD_fr (M := 0) a6 (List.mem_cons_of_mem _ hd) hG), fun _ _ _ y => y, fun v => by omega, zUd_q (zUd_rf z) a4, Or.inl ⟨zJq_tr (zJq_q a4) (zJq_q (zQt_drop W1.1.1.1.1 b3)), Or.inl rfl⟩⟩
  · -- a router hears
    have hc' : zAgr 0x100000000000000000000000000000000 z z1 := zAgr_fr a5 (by decide)
    have W1 : zW1 z1 w1 T E tl Nm Wy u5 K (sS g t) R mk (zupd S b s') Lp od X (c :: XM) := ⟨a3, zB44_a hc' (zAgr_fr a6 (by decide)) hB, a4, zWp_a hc (zAgr_fr a5 (by decide)) (zK7_s a7) (zAgr_fr a6 (by decide)) (fun _ _ _ y => y) hP, zMs_a (zAgr_fr a5 (by decide)) (zAgr_fr a6 (by decide)) hMs, zQI_cg rfl rfl rfl hQ, hrP, zU5_a (zAgr_fr a6 (by decide)) h5⟩
    obtain ⟨w', b1, b2, b3, b4⟩ := zW1_drop (N := N) W1
    have i15 : zgI z1 11 15 0 = 0 := by
      obtain ⟨⟨-, -, -, -, -, -, -, p10⟩, -⟩ := a3
      exact p10
    have s4 : zS4 T z z1 := zS4_fr (zS4_rf hT) a5 (by decide) (by decide)
    exact ⟨z1, z1, w1, w', sS g t, R, mk, zupd S b s', a1, Or.inl ⟨i15, rfl⟩, a2, b1, b2, fun v _ => a7 v, fun d G hd hG => b4 d G hd (zMD_fr (M := 0) a8 (List.mem_cons_of_mem _ hd) hG), fun _ _ _ y => y, fun v => by omega, zUd_fr (zUd_rf z) a5 (by decide), Or.inl ⟨zJq_tr ⟨s4, zAgr_fr a5 (by decide), zAgr_fr a6 (by decide)⟩ (zJq_q (zQt_drop W1.1.1.1.1 b3)), Or.inr ⟨t, rfl⟩⟩⟩
  · -- a segment
    have TB1 : zTB w1 T = zTB w T := zTB_cg (fun j v hj => by rcases hj with rfl | rfl <;> exact zFr_gI a1.2.2.2 (by decide) (by decide) v)
    have TA1 : zTA w1 T = zTA w T := zTA_cg (fun c k _ _ => zFr_gA a1.2.2.2 (by decide) c k)
    rw [← TA1] at a3 a9
    have i15 : zgI z1 11 15 0 = 0 := by
      obtain ⟨⟨-, -, -, -, -, -, -, p10⟩, -⟩ := a3
      exact (a6 11 15 0 (by omega)).symm.trans p10
    obtain ⟨z2, z', w2, g', R', mk', c1, c2, c3, d1, d2, d3, d4, d5, d6, d7, d8, d9, e1, e2, e3, e4⟩ := zp_segW (N := N) (zB44_a (zAgr_fr a1.1 (by decide)) (zAgr_fr a1.2.2.2 (by decide)) hB) (zWa_a hc (zAgr_fr a1.1 (by decide)) (zAgr_fr a1.2.2.2 (by decide)) hA) (zWp_a hc (zAgr_fr a1.1 (by decide)) a1.2.1 (zAgr_fr a1.2.2.2 (by decide)) (fun _ _ _ y => y) hP) (zMs_a (zAgr_fr a1.1 (by decide)) (zAgr_fr a1.2.2.2 (by decide)) hMs) hbT hr (by have := (hc.2.2.2.2.2.1 q hq).2.1; rw [hb] at this; omega) i15 a2 a6 a3 a9
    have hg : zGw T E g := by
      obtain ⟨⟨-, -, -, p4, -⟩, -⟩ := h1
      exact p4.1
    have hyw : zWyw T Wy := by
      obtain ⟨⟨-, -, -, -, ⟨-, -, p7⟩, -⟩, -⟩ := h1
      exact p7
    have hEw := h1.1.1.2.2.2.1
    have Q' := zGs_Q (rQcl (Nm := Nm) (u5 := u5) hEw hc) hEw hc hyw hbT hg (fun G p t hG _ _ _ => rD_no (hG.elim (fun y => Or.inr (Or.inl y)) Or.inl)) hQ d9
    have W2 : zW1 z' w2 T E tl Nm Wy u5 K g' R' mk' S Lp od X (c :: XM) := ⟨d1, d2, d3, d4, d5, Q', hrP, zU5_a (zAgr_tr (zAgr_fr a1.2.2.2 (by decide)) e3) h5⟩
    obtain ⟨w', b1, b2, b3, b4⟩ := zW1_drop (N := N) W2
    refine ⟨z2, z', w2, w', g', R', mk', S, by rw [a10, c1, zc_e], c3, by rw [a11, c2, zc_e], b1, b2, fun v hv => ⟨fun j hj => ((e1 v hv).1 j hj).trans ((a12 v).1 j hj), fun i => ((e1 v hv).2 i).trans ((a12 v).2 i)⟩, fun d G hd hG => b4 d G hd (e2 d G (List.mem_cons_of_mem _ hd) (zMD_fr (M := 0) a13 (List.mem_cons_of_mem _ hd) hG)), d6, fun v => ?_, zUd_tr (zUd_q (zUd_rf z) a1) d8, Or.inr ⟨z1, w1, zh, w2, s, hr, k1, s24, zJq_q a1, a2, a4, a5, a6, a7, a8, e4, b3⟩⟩
    rcases d7 with y | y
    · rw [y]; omega
    · rw [y]
      by_cases e : v = b
      · rw [e, zupd_s, if_pos rfl]; omega
      · rw [zupd_n e]; omega
