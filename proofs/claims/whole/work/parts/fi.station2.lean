/-! a station, whole: both loops go on -/
def zStW (T : Tp) (E : Ev) (tl Nm : Nat → Nat) (Wy : Wyt) (u5 : Nat → Prop) (K : Int32 → Int32 → Int32 → Prop) (X : List Nat) (z w : St) (g : Sg) (Lp : Nat → List Pe) : Prop := ∃ R mk S od XM, zW1 z w T E tl Nm Wy u5 K g R mk S Lp od X XM
/-- one station's step, as what is kept of ends and books sees it -/
def zStp1 (T : Tp) (E : Ev) (tl Nm : Nat → Nat) (Wy : Wyt) (u5 : Nat → Prop) (K : Int32 → Int32 → Int32 → Prop) (X : List Nat) (N : Nat) (D : Dg) (q : Nat) (z w : St) (g : Sg) (Lp : Nat → List Pe) (z' w' : St) (g' : Sg) (Lp' : Nat → List Pe) : Prop :=
  zStW T E tl Nm Wy u5 K X z w g Lp ∧ zStW T E tl Nm Wy u5 K X z' w' g' Lp' ∧ tv T q ∧ (∀ v, v < tb T → ∀ e, e ∈ Lp' v → (∃ e0, e0 ∈ Lp v ∧ peD e = peD e0) ∨ (v = tw T q ∧ peD e = dFull D)) ∧
  ∃ zh wh gh, zJq T z zh w wh ∧ (∀ QF QW QD, zQcl T E QF QW QD → zQI T QF QW g → zQI T QF QW gh) ∧ zTrc T E Wy q (tw T q) D N Lp zh wh gh z' w' g'
theorem zp_station {z w : St} {T : Tp} {E : Ev} {tl Nm : Nat → Nat} {Wy : Wyt} {u5 : Nat → Prop} {K : Int32 → Int32 → Int32 → Prop} {g : Sg} {R : Rg} {mk : Nat → Nat} {S : Nat → Rs} {Lp : Nat → List Pe} {od : Nat → Nat} {X XM : List Nat} {q x s N : Nat} {kind addr dv : Int32} {D : Dg} (h : zW1 z w T E tl Nm Wy u5 K g R mk S Lp od X XM) (hX : XM.length ≤ 30) (hq : tv T q) (hm : mk (tw T q) < 2147483646) (ho : od (tw T q) < 2147483647) (hs : s < 8) (hx : x ∈ X) (hxc : zPC 14 z x D) (h13 : D.1 13 = Int32.ofNat s) (hto : D.1 11 = -1 ∨ ∃ t, t < 8 ∧ D.1 11 = Int32.ofNat t) (hPd : ¬ D.1 2 = 5 → ¬ D.1 2 = 6 → zPd T R D) (hpm : zPm w T K XM kind addr dv D) (hrk : (D.1 2 = 2 ∨ D.1 2 = 3 ∨ D.1 2 = 4) → ∃ p, tv T p ∧ p / 8 = q / 8 ∧ tw T p ≠ tw T q ∧ u5 (p / 8) ∧ rK T Nm p D) (hn : eN E ≤ 400000) (hN : 4096 < N) :
    ∃ z' w' g' R' mk' S' Lp' od', (∀ K11 K80 x1 x2, fX11_letArrive_121 N K11 K80 0 x1 x2 x (q / 8) (Int32.ofNat (q % 8)) z = fX11_letArrive_173 N K11 K80 0 x1 x2 x (q / 8) (Int32.ofNat (q % 8)) z') ∧ (∀ K2 K125 x1, fX19_arriveAll_154 N K2 K125 0 x1 (Int32.ofNat s) (D.1 11) kind addr dv (q / 8) (Int32.ofNat (q % 8)) w = fX19_arriveAll_186 N K2 K125 0 x1 (Int32.ofNat s) (D.1 11) kind addr dv (q / 8) (Int32.ofNat (q % 8)) w') ∧ zW1 z' w' T E tl Nm Wy u5 K g' R' mk' S' Lp' od' X XM ∧ (∀ j, j < 15 → j ≠ 4 → j ≠ 10 → zgI z' 7 j x = zgI z 7 j x) ∧ (D.1 11 = -1 → zPC 14 z' x D) ∧ (∀ d G, d ∈ XM → zMD w T K d G → zMD w' T K d G) ∧ (∀ c n v, R c n = some v → R' c n = some v) ∧ (∀ v, mk' v ≤ mk v + (if v = tw T q then 1 else 0)) ∧ (∀ v, od' v ≤ od v + (if v = tw T q then 1 else 0)) ∧ zUd z z' ∧ zStp1 T E tl Nm Wy u5 K X N D q z w g Lp z' w' g' Lp' ∧ zAp E g g' := by
  have h1 := h.1
  have hc := h1.1.1.2.1
  have hT := h1.1.1.1
  have hTM := h1.1.2.1.1
  have hqn : q / 8 < tn T := hq.1
  have hqs : q % 8 < ts T (q / 8) := hq.2
  have n24 : q / 8 < 24 := Nat.lt_of_lt_of_le hqn hc.2.1
  have e123 : zgQ z 123 (q / 8) (q % 8) = some q := by
    have := (hT.2.1.1 (q / 8) n24).2.2.2 (q % 8) hqs
    rw [this]; congr 1; omega
  have e164 : zgQ w 164 (q / 8) (q % 8) = some q := by
    have := (hTM.2.1.1 (q / 8) hqn).2.2.2 (q % 8) hqs
    rw [this]; congr 1; omega
  have e713 : zgI z 7 13 x = Int32.ofNat s := (hxc.1 13 (by omega) (by omega)).trans h13
  obtain ⟨z1, w1, a1, a2, a3, a4, a5, a6, a7, a8⟩ := zp_head (N := N) (to := D.1 11) (kind := kind) (addr := addr) (data := dv) h (by omega) hq hs e713 hx (by omega)
  have X0 := zIp_Xn h1
  have kx := a4 x (Or.inr (Or.inr hx))
  obtain ⟨r, z5, z6, z', w', g', R', mk', S', Lp', od', b1, b2, b3, b4, b5, b6, b7, b8, b9, c1, c2, c3, c4, c5, c6⟩ := zp_arr (N := N) a3 hX hq rfl hm ho hs hx ⟨fun j hj h8 => (kx.1 j).trans (hxc.1 j hj h8), fun i hi => (kx.2 i).trans (hxc.2 i hi)⟩ h13 hto hPd (zPm_fr (fun d G hd hG => zMD_fr (M := 0) a5 hd hG) hpm) hrk hn hN
  refine ⟨z', w', g', R', mk', S', Lp', od', fun K11 K80 x1 x2 => ?_, fun K2 K125 x1 => ?_, b5, fun j j1 j2 j3 => (b6 j j1 j2 j3).trans (kx.1 j), b7, fun d G hd hG => b8 d G hd (zMD_fr (M := 0) a5 hd hG), b9, c1, c2, zUd_tr a7 c3, ⟨⟨R, mk, S, od, XM, h⟩, ⟨R', mk', S', od', XM, b5⟩, hq, c4, z1, w1, _, a6, a8, c5⟩, zAp_tr (nHeard_Ap (zEw_d (zGw_ip h1).2.2.1 hq)) c6⟩
  · have tail : fX11_letArrive_148 N K11 K80 0 x1 x2 x (q / 8) (Int32.ofNat (q % 8)) q z6 = fX11_letArrive_173 N K11 K80 0 x1 x2 x (q / 8) (Int32.ofNat (q % 8)) z' := by
      unfold fX11_letArrive_148
      rcases b3 with ⟨y1, y2⟩ | ⟨y1, y2⟩
      · rw [if_pos y1, y2]
      · have fs := wX11_sendOff (Nat.and_self mX11_sendOff) (zFr_rf _ _) _ _ y2
        have T' := b5.1.1.1.1
        have r8 : zgR (zsI z6 11 15 0 0) 8 0 q = some (tw T q) := (zFr_gR fs (by decide) (by decide) q).symm.trans (T'.2.2.2 q hq).1
        have r11 : zgR (zsI z6 11 15 0 0) 11 13 0 = some 0 := (zFr_gR fs (by decide) (by decide) 0).symm.trans T'.1.2.2.1
        rw [if_neg y1, zl_e, r8, zl_e, r11, zl_e, zd_e, zd_e, y2, zc_e]
    unfold fX11_letArrive_121
    rw [zkk (by omega) (by omega), zl_e, zoC (by omega), e123, zd_e, a1, b1, zc_e]
    rcases b2 with ⟨y1, y2⟩ | ⟨y1, y2⟩
    · rw [if_pos y1, ← y2]; exact tail
    · rw [if_neg y1, y2, zc_e]; exact tail
  · unfold fX19_arriveAll_154
    have e2 : zgQ (zsI w 16 9 (q / 8) (zgI w 16 9 (q / 8) + 1)) 164 (q / 8) (q % 8) = some q := e164
    rw [zl_e, zkk (by omega) (by omega), zl_e, zoC (by omega), e2, zd_e, a2, b4, zc_e]
