/-! a frame arrives at a station: all of the world -/
def zTrc (T : Tp) (E : Ev) (Wy : Wyt) (q b : Nat) (D : Dg) (N : Nat) (Lp : Nat → List Pe) (z w : St) (g : Sg) (z' w' : St) (g' : Sg) : Prop :=
  (zJq T z z' w w' ∧ ∀ QF QW QD, zQcl T E QF QW QD → (∀ p t l, 1 ≤ l → l ≤ 63 → D.1 4 = Int32.ofNat (l + 1) → tv T p → tw T p = b → t < 8 → (D.1 2 = 0 ∨ D.1 2 = 1) → QD p (Int32.ofNat t) (dHop D (ti T q) (Int32.ofNat l))) → (∀ G p t, G.1 2 = 0 → tv T p → t < 8 → QD p (Int32.ofNat t) G) → zQI T QF QW g → zQI T QF QW g') ∨
  ∃ z1 w1 g1 u Dc, zJq T z z1 w w1 ∧ (∀ QF QW QD, zQcl T E QF QW QD → zQI T QF QW g → zQI T QF QW g1) ∧ (Dc = D ∨ (64 ≤ dw Dc ∧ ((∃ e, e ∈ Lp b ∧ peD e = Dc) ∨ Dc = dFull D))) ∧ zTs T E g1 Wy b q u Dc N z1 w1 z' w' g'
theorem zQI_s {T : Tp} {g g' : Sg} (h : g' = g ∨ ∃ t, g' = sS g t) {QF : Fr → Prop} {QW : Nat → Nat → Dg → Prop} (y : zQI T QF QW g) : zQI T QF QW g' := by
  rcases h with e | ⟨t, e⟩
  · rw [e]; exact y
  · rw [e]; exact zQI_cg rfl rfl rfl y
theorem zAp_s {E : Ev} {g g' : Sg} (h : g' = g ∨ ∃ t, g' = sS g t) : zAp E g g' := by
  rcases h with e | ⟨t, e⟩
  · rw [e]; exact zAp_rf E g
  · rw [e]; exact zAp_eq rfl
theorem zAp_sgF {z zh w z' w' : St} {T : Tp} {E : Ev} {g g' : Sg} {Wy : Wyt} {b q u s N : Nat} {V : Sv} {own src oth : Int32} (hw : zEw T E) (hT : zTc T) (hWw : zWyw T Wy) (hb : b < tb T) (h : zSgF z zh w T E g Wy b q u s V own src oth N z' w' g') : zAp E g g' := by
  rcases h with ⟨d, -, -, -, -, -, -, e⟩ | ⟨d, l, z2, z3, w3, bk, -, -, -, -, -, -, -, -, -, -, -, -, -, -, -, -, -, -, -, e⟩ | ⟨-, -, e⟩ | ⟨-, za, -, -, -, gs, -⟩
  · exact zAp_eq (by rw [e])
  · exact zAp_eq (by rw [e])
  · exact zAp_eq (by rw [e])
  · exact zGs_Ap hw hT hWw hb gs
theorem zAp_got {z w z' w' : St} {T : Tp} {E : Ev} {g g' : Sg} {Wy : Wyt} {b q N : Nat} {P : Dg → Prop} (hw : zEw T E) (hT : zTc T) (hWw : zWyw T Wy) (hb : b < tb T) (h : (zJq T z z' w w' ∧ (g' = g ∨ ∃ t, g' = sS g t)) ∨ ∃ z1 w1 g1 u Dc, zJq T z z1 w w1 ∧ (g1 = g ∨ ∃ t, g1 = sS g t) ∧ P Dc ∧ zTs T E g1 Wy b q u Dc N z1 w1 z' w' g') : zAp E g g' := by
  rcases h with ⟨-, y⟩ | ⟨z1, w1, g1, u, Dc, -, y, -, ⟨z2, w2, zh, w3, s, -, -, -, -, -, -, -, -, -, -, f, -⟩⟩
  · exact zAp_s y
  · exact zAp_tr (zAp_s y) (zAp_sgF hw hT hWw hb f)
/-- the outcome of a frame's content at a station -/
def zArO (T : Tp) (E : Ev) (tl Nm : Nat → Nat) (Wy : Wyt) (u5 : Nat → Prop) (K : Int32 → Int32 → Int32 → Prop) (X XM : List Nat) (q b x s N : Nat) (kind addr dv : Int32) (D : Dg) (z w : St) (g : Sg) (R : Rg) (mk : Nat → Nat) (S : Nat → Rs) (Lp : Nat → List Pe) (od : Nat → Nat) : Prop :=
  ∃ r z5 z6 z' w' g' R' mk' S' Lp' od', fX11_arriveAt_51 N 0 q x (some b) z = some (r, z5) ∧ ((r = 0 ∧ z6 = z5) ∨ (¬ r = 0 ∧ fX11_forward N 0 q x z5 = some (0, z6))) ∧ zTl N b z6 z' ∧ fX19_arrive_68 N 0 q (Int32.ofNat s) (D.1 11) kind addr dv w = some (0, w') ∧ zW1 z' w' T E tl Nm Wy u5 K g' R' mk' S' Lp' od' X XM ∧ (∀ j, j < 15 → j ≠ 4 → j ≠ 10 → zgI z' 7 j x = zgI z 7 j x) ∧ (D.1 11 = -1 → zPC 14 z' x D) ∧ (∀ d G, d ∈ XM → zMD w T K d G → zMD w' T K d G) ∧ (∀ c n v, R c n = some v → R' c n = some v) ∧ (∀ v, mk' v ≤ mk v + (if v = b then 1 else 0)) ∧ (∀ v, od' v ≤ od v + (if v = b then 1 else 0)) ∧ zUd z z' ∧ (∀ v, v < tb T → ∀ e, e ∈ Lp' v → (∃ e0, e0 ∈ Lp v ∧ peD e = peD e0) ∨ (v = b ∧ peD e = dFull D)) ∧ zTrc T E Wy q b D N Lp z w g z' w' g' ∧ zAp E g g'
theorem zp_arr {z w : St} {T : Tp} {E : Ev} {tl Nm : Nat → Nat} {Wy : Wyt} {u5 : Nat → Prop} {K : Int32 → Int32 → Int32 → Prop} {g : Sg} {R : Rg} {mk : Nat → Nat} {S : Nat → Rs} {Lp : Nat → List Pe} {od : Nat → Nat} {X XM : List Nat} {q b x s N : Nat} {kind addr dv : Int32} {D : Dg} (h : zW1 z w T E tl Nm Wy u5 K g R mk S Lp od X XM) (hX : XM.length ≤ 30) (hq : tv T q) (hb : tw T q = b) (hm : mk b < 2147483646) (ho : od b < 2147483647) (hs : s < 8) (hx : x ∈ X) (hxc : zPC 14 z x D) (h13 : D.1 13 = Int32.ofNat s) (hto : D.1 11 = -1 ∨ ∃ t, t < 8 ∧ D.1 11 = Int32.ofNat t) (hPd : ¬ D.1 2 = 5 → ¬ D.1 2 = 6 → zPd T R D) (hpm : zPm w T K XM kind addr dv D) (hrk : (D.1 2 = 2 ∨ D.1 2 = 3 ∨ D.1 2 = 4) → ∃ p, tv T p ∧ p / 8 = q / 8 ∧ tw T p ≠ tw T q ∧ u5 (p / 8) ∧ rK T Nm p D) (hn : eN E ≤ 400000) (hN : 4096 < N) :
    zArO T E tl Nm Wy u5 K X XM q b x s N kind addr dv D z w g R mk S Lp od := by
  obtain ⟨h1, hB, hA, hP, hMs, hQ, hrP, h5⟩ := id h
  have hc := h1.1.1.2.1
  have hT := h1.1.1.1
  obtain ⟨hg, hyw, hEw, i15⟩ := zGw_ip h1
  have hqb := (hc.2.2.2.2.2.1 q hq).1
  have hbT : b < tb T := by rw [← hb]; exact hqb
  have hTM := h1.1.2.1.1
  have e72 : zgI z 7 2 x = D.1 2 := hxc.1 2 (by omega) (by omega)
  have e71 : zgI z 7 1 x = D.1 1 := hxc.1 1 (by omega) (by omega)
  have e711 : zgI z 7 11 x = D.1 11 := hxc.1 11 (by omega) (by omega)
  have e713 : zgI z 7 13 x = Int32.ofNat s := (hxc.1 13 (by omega) (by omega)).trans h13
  have r18 : zgR w 18 0 q = some b := by rw [(hTM.2.2.2 q hq).1, hb]
  -- nothing happens
  have quiet : fX11_arriveAt_51 N 0 q x (some b) z = some (0, z) → ∀ w', fX19_arrive_68 N 0 q (Int32.ofNat s) (D.1 11) kind addr dv w = some (0, w') → zW1 z w' T E tl Nm Wy u5 K g R mk S Lp od X XM → zJq T z z w w' → (∀ d G, d ∈ XM → zMD w T K d G → zMD w' T K d G) → zArO T E tl Nm Wy u5 K X XM q b x s N kind addr dv D z w g R mk S Lp od := fun y w' y2 y3 y4 y5 =>
    ⟨0, z, z, z, w', g, R, mk, S, Lp, od, y, Or.inl ⟨rfl, rfl⟩, Or.inl ⟨i15, rfl⟩, y2, y3, fun _ _ _ _ => rfl, fun _ => hxc, y5, fun _ _ _ y => y, fun v => by omega, fun v => by omega, zUd_rf z, fun v _ e he => Or.inl ⟨e, he, rfl⟩, Or.inl ⟨y4, fun _ _ _ _ _ _ k => k⟩, zAp_rf E g⟩
  rcases hpm with ⟨k5, rfl, ha, rfl⟩ | ⟨k6, rfl, rfl, rfl⟩ | ⟨k5, k6, rfl, rfl, d, hd, rfl, hDm⟩
  · -- an asking
    have e8 : zgI z 8 4 q = zad q := (hT.2.2.2 q hq).2.2.2.2
    by_cases c : D.1 1 = zad q
    · obtain ⟨z', w', a1, a2, a3, a4, a5, f1, f2⟩ := zIp_answer (N := N) (to := Int32.ofNat s) (addr := zgI z 7 0 x) h1 hq (Or.inr ⟨s, hs, rfl⟩) (by omega) (by omega)
      have TA1 : zTA w' T = zTA w T := zTA_cg (fun c k _ _ => zFr_gA f2 (by decide) c k)
      have TB1 : zTB w' T = zTB w T := zTB_cg (fun j v hj => by rcases hj with rfl | rfl <;> exact zFr_gI f2 (by decide) (by decide) v)
      have qt : zQt T z z' w w' := ⟨zFr_w f1 (by decide), zKs_e a4, zS4_fr (zS4_rf hT) f1 (by decide) (by decide), zFr_w f2 (by decide)⟩
      have W1 := zW1_q h qt (by rw [TA1, TB1]; exact a3) (fun _ _ _ y => y) (nNote_Q (rQcl hEw hc) hq (Or.inr rfl) hQ)
      have i15' := (zGw_ip a3).2.2.2
      refine ⟨0, z', z', z', w', _, R, mk, S, Lp, od, ?_, Or.inl ⟨rfl, rfl⟩, Or.inl ⟨i15', rfl⟩, ?_, W1, fun j _ _ _ => (a4 x (Or.inr hx)).1 j, fun _ => ⟨fun j hj h8 => ((a4 x (Or.inr hx)).1 j).trans (hxc.1 j hj h8), fun i hi => ((a4 x (Or.inr hx)).2 i).trans (hxc.2 i hi)⟩, fun d G hd hG => zMD_fr (M := 0) a5 hd hG, fun _ _ _ y => y, fun v => by omega, fun v => by omega, zUd_q (zUd_rf z) qt, fun v _ e he => Or.inl ⟨e, he, rfl⟩, Or.inl ⟨zJq_q qt, fun QF QW QD cl _ _ y => nNote_Q cl hq (Or.inr rfl) y⟩, nPut_Ap (zEw_d hEw hq)⟩
      · unfold fX11_arriveAt_51
        rw [e72, if_neg (fun y => y k5), e71, e8, if_neg (fun y => y c), e713, a1, zc_e]
      · unfold fX19_arrive_68
        rw [if_neg (fun y => y rfl), zm_address hTM hc hq, zc_e, ha, if_neg (fun y => y c), a2, zc_e]
    · refine quiet ?_ w ?_ h (zJq_rf hT) (fun _ _ _ y => y)
      · unfold fX11_arriveAt_51
        rw [e72, if_neg (fun y => y k5), e71, e8, if_pos c]
      · unfold fX19_arrive_68
        rw [if_neg (fun y => y rfl), zm_address hTM hc hq, zc_e, ha, if_pos c]
  · -- an answer
    refine quiet ?_ w ?_ h (zJq_rf hT) (fun _ _ _ y => y)
    · unfold fX11_arriveAt_51
      rw [e72, if_pos (by rw [k6]; decide), if_neg (fun y => y k6)]
    · unfold fX19_arrive_68
      rw [if_pos (by decide), if_pos (by decide)]
  · -- a datagram
    have hPD := hPd k5 k6
    obtain ⟨w1, w2, c, c1, c2, c3, c4, c5, c6, c7, c8, c9⟩ := zIp_copy (N := N) h1 hq (by omega) hd hDm (by omega)
    have TA1 : zTA w2 T = zTA w T := zTA_cg (fun c k _ _ => zFr_gA c8 (by decide) c k)
    have TB1 : zTB w2 T = zTB w T := zTB_cg (fun j v hj => by rcases hj with rfl | rfl <;> exact zFr_gI c8 (by decide) (by decide) v)
    have qt : zQt T z z w w2 := ⟨zFr_rf _ _, zKs_rf z, zS4_rf hT, zFr_w c8 (by decide)⟩
    have W2 : zW1 z w2 T E tl Nm Wy u5 K g R mk S Lp od X (c :: XM) := zW1_q h qt (by rw [TA1, TB1]; exact c5) (fun _ _ _ y => y) hQ
    have r18' : zgR w2 18 0 q = some b := by rw [zFr_gR c8 (by decide) (by decide) q]; exact r18
    have TM2 := c5.1.2.1.1
    have o1 : fX19_of N 0 (Int32.ofNat c) 1 w2 = some (D.1 1, w2) := by
      have : md w2 c 1 = D.1 1 := c6.1.2.2.1
      rw [← this]; exact zm_of (k := 1) c3 (by omega)
    have o2 : fX19_of N 0 (Int32.ofNat c) 2 w2 = some (D.1 2, w2) := by
      have : md w2 c 2 = D.1 2 := c6.1.2.2.2.1
      rw [← this]; exact zm_of (k := 2) c3 (by omega)
    have km : ∀ d G, d ∈ XM → zMD w T K d G → zMD w2 T K d G := fun d G hd hG => c7 d G hd hG
    have b1 := (hT.2.1.2 b hbT).2.2.1
    have b1m := (TM2.2.1.2 b hbT).2.2.1
    have hcl : fX11_arriveAt_51 N 0 q x (some b) z = if D.1 1 = 0 ∨ tha T b (D.1 1) = true then fX11_arriveAt_151 N 0 q x (some b) z else if zbi (tr T b) = 0 then some (0, z) else if D.1 11 < 0 then some (0, z) else if D.1 2 = 1 then some (1, z) else if ¬ D.1 2 = 0 then some (0, z) else some (1, z) := by
      unfold fX11_arriveAt_51 fX11_arriveAt_145
      rw [e72, if_pos k5, if_pos k6, e71]
      by_cases y : D.1 1 = 0
      · rw [if_pos y, if_pos (Or.inl y)]
      · rw [if_neg y, zd_e, zc_hasAddress hT hc _ hbT (by omega), zc_e]
        by_cases a : tha T b (D.1 1) = true
        · rw [a, if_pos (show ¬ (zbi true : Int32) = 0 by decide), if_pos (Or.inr rfl)]
        · have a' : tha T b (D.1 1) = false := by simpa using a
          rw [a', if_neg (show ¬ ¬ (zbi false : Int32) = 0 by decide), if_neg (show ¬ (D.1 1 = 0 ∨ (false : Bool) = true) from fun k => k.elim y (fun k => by cases k)), b1, e711, e72]
    have hml : fX19_arrive_68 N 0 q (Int32.ofNat s) (D.1 11) 2 0 (Int32.ofNat d) w = if D.1 1 = 0 ∨ tha T b (D.1 1) = true then fX19_arrive_147 N 0 q (Int32.ofNat c) w2 else if zbi (tr T b) = 0 then fX19_arrive_206 N 0 (Int32.ofNat c) w2 else if D.1 11 = -1 then fX19_arrive_206 N 0 (Int32.ofNat c) w2 else if D.1 2 = 1 then fX19_arrive_196 N 0 q (Int32.ofNat c) w2 else if ¬ D.1 2 = 0 then fX19_arrive_206 N 0 (Int32.ofNat c) w2 else fX19_arrive_196 N 0 q (Int32.ofNat c) w2 := by
      unfold fX19_arrive_68
      rw [if_pos (by decide), if_neg (by decide), c1, zc_e, c2, zc_e, o1, zc_e]
      by_cases y : D.1 1 = 0
      · rw [if_pos y, if_pos (Or.inl y)]
      · rw [if_neg y, r18', zl_e, zd_e, zm_isOwn TM2 hc _ hbT (by omega), zc_e]
        by_cases a : tha T b (D.1 1) = true
        · rw [a, if_neg (show ¬ (zbi true : Int32) = 0 by decide), if_pos (Or.inr rfl)]
        · have a' : tha T b (D.1 1) = false := by simpa using a
          rw [a', if_pos (show (zbi false : Int32) = 0 from rfl), if_neg (show ¬ (D.1 1 = 0 ∨ (false : Bool) = true) from fun k => k.elim y (fun k => by cases k)), zl_e, r18', zd_e, b1m, o2, zc_e, o2, zc_e]
    have lt1 : D.1 11 < 0 ↔ D.1 11 = -1 := by
      rcases hto with y | ⟨t, t1, t2⟩
      · rw [y]; decide
      · rw [t2]
        refine ⟨fun y => ?_, fun y => absurd y (zo_ne1 (by omega))⟩
        have := (zo_lt (a := t) (b := 0) (by omega) (by omega)).mp y
        omega
    have dropq : fX11_arriveAt_51 N 0 q x (some b) z = some (0, z) → fX19_arrive_68 N 0 q (Int32.ofNat s) (D.1 11) 2 0 (Int32.ofNat d) w = fX19_arrive_206 N 0 (Int32.ofNat c) w2 → zArO T E tl Nm Wy u5 K X XM q b x s N 2 0 (Int32.ofNat d) D z w g R mk S Lp od := fun y1 y2 => by
      obtain ⟨w', d1, d2, d3, d4⟩ := zW1_drop (N := N) W2
      exact quiet y1 w' (by rw [y2]; unfold fX19_arrive_206; rw [d1, zc_e]) d2 (zJq_tr (zJq_q qt) (zJq_q (zQt_drop hT d3))) (fun e G he hG => d4 e G he (km e G he hG))
    by_cases own : D.1 1 = 0 ∨ tha T b (D.1 1) = true
    · rw [if_pos own] at hcl hml
      obtain ⟨z6, z', w', g', R', mk', S', Lp', od', a1, a2, a3, a4, a5, a6, a7, a8, a9, a10, a11, a12⟩ := zp_got (N := N) W2 (by omega) hq hb hm ho hx hxc hPD c6 hrk hn hN
      refine ⟨0, z6, z6, z', w', g', R', mk', S', Lp', od', hcl.trans a1, Or.inl ⟨rfl, rfl⟩, a2, hml.trans a3, a4, fun j hj _ _ => (a5 x hx).1 j hj, fun _ => ⟨fun j hj h8 => ((a5 x hx).1 j (by omega)).trans (hxc.1 j hj h8), fun i hi => ((a5 x hx).2 i).trans (hxc.2 i hi)⟩, fun e G he hG => a6 e G he (km e G he hG), a7, a8, a9, a10, a11, ?_, zAp_got hEw hc hyw hbT a12⟩
      rcases a12 with ⟨y1, y2⟩ | ⟨z1, w3, g1, u, Dc, y1, y2, y3, y4⟩
      · exact Or.inl ⟨zJq_tr (zJq_q qt) y1, fun QF QW QD _ _ _ k => zQI_s y2 k⟩
      · exact Or.inr ⟨z1, w3, g1, u, Dc, zJq_tr (zJq_q qt) y1, fun QF QW QD _ k => zQI_s y2 k, y3, y4⟩
    · rw [if_neg own] at hcl hml
      by_cases hr : tr T b = true
      · rw [hr, if_neg (show ¬ (zbi true : Int32) = 0 by decide)] at hcl hml
        by_cases ht : D.1 11 = -1
        · rw [if_pos (lt1.mpr ht)] at hcl
          rw [if_pos ht] at hml
          exact dropq hcl hml
        · rw [if_neg (fun y => ht (lt1.mp y))] at hcl
          rw [if_neg ht] at hml
          by_cases hk : D.1 2 = 0 ∨ D.1 2 = 1
          · have hcl : fX11_arriveAt_51 N 0 q x (some b) z = some (1, z) := by
              rw [hcl]
              by_cases k1 : D.1 2 = 1
              · rw [if_pos k1]
              · rw [if_neg k1, if_neg (fun y => y (hk.resolve_right k1))]
            have hml : fX19_arrive_68 N 0 q (Int32.ofNat s) (D.1 11) 2 0 (Int32.ofNat d) w = fX19_arrive_196 N 0 q (Int32.ofNat c) w2 := by
              rw [hml]
              by_cases k1 : D.1 2 = 1
              · rw [if_pos k1]
              · rw [if_neg k1, if_neg (fun y => y (hk.resolve_right k1))]
            obtain ⟨z6, z', w', g', R', mk', a1, a2, a3, a4, a5, a6, a7, a8, a9, a10, a11⟩ := zp_pass (N := N) W2 (by omega) hq hb hr hm hx hxc hPD hk c6 (by omega)
            refine ⟨1, z, z6, z', w', g', R', mk', S, Lp, od, hcl, Or.inr ⟨by decide, a1⟩, a2, hml.trans a3, a4, fun j _ j4 j10 => a5 j j4 j10, fun y => absurd y ht, fun e G he hG => a6 e G he (km e G he hG), a7, a8, fun v => by omega, a9, fun v _ e he => Or.inl ⟨e, he, rfl⟩, Or.inl ⟨zJq_tr (zJq_q qt) a10, fun QF QW QD cl hop er y => zGs_Q cl hEw hc hyw hbT hg (fun G p t hG hp hpb ht => ?_) y a11⟩, zGs_Ap hEw hc hyw hbT a11⟩
            rcases hG with ⟨l, l1, l2, l3, e⟩ | e
            · rw [e]
              exact hop p t (l - 1) (by omega) (by omega) (by rw [l3, show l - 1 + 1 = l by omega]) hp hpb ht hk
            · exact er G p t e hp ht
          · have n0 : ¬ D.1 2 = 0 := fun y => hk (Or.inl y)
            have n1 : ¬ D.1 2 = 1 := fun y => hk (Or.inr y)
            rw [if_neg n1, if_pos n0] at hcl hml
            exact dropq hcl hml
      · have hr' : tr T b = false := by simpa using hr
        rw [hr', if_pos (show (zbi false : Int32) = 0 from rfl)] at hcl hml
        exact dropq hcl hml
