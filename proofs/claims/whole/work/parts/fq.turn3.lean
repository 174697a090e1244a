/-! a router's turn in the world: the registry is cleaned first -/
theorem rClean (Q : Qt) {T : Tp} (hc : zTc T) (R : Rg) : ∃ R0 : Rg, (∀ c n v, R0 c n = some v → R c n = some v) ∧ zRok Q T R0 ∧ ∀ D, zPd T R D → ((D.1 2 = 2 ∨ D.1 2 = 3 ∨ D.1 2 = 4) → ∃ p, tv T p ∧ D.1 0 = zad p ∧ zRkD Q T p D) → zPd T R0 D := by
  obtain ⟨good, hg⟩ : ∃ good : Nat → ((Int32 × Int32 × Int32 × Int32) × (Nat → Int32)) → Prop, good = fun c v => (v.1.2.2.1 = 2 ∨ v.1.2.2.1 = 3 ∨ v.1.2.2.1 = 4) → ∃ p, tv T p ∧ tw T p = c ∧ v.1.1 = zad p ∧ zRkD Q T p (fun j => if j = 2 then v.1.2.2.1 else if j = 7 then v.1.2.2.2 else 0, v.2) := ⟨_, rfl⟩
  obtain ⟨R0, hR0⟩ : ∃ R0 : Rg, ∀ c n, R0 c n = (match R c n with | some v => @ite _ (good c v) (Classical.propDecidable _) (some v) none | none => none) := ⟨fun c n => match R c n with | some v => @ite _ (good c v) (Classical.propDecidable _) (some v) none | none => none, fun _ _ => rfl⟩
  have key : ∀ c n v, R0 c n = some v → R c n = some v ∧ good c v := fun c n v e => by
    rw [hR0] at e
    cases r : R c n with
    | none => rw [r] at e; cases e
    | some u =>
      rw [r] at e
      by_cases k : good c u
      · have e : @ite _ (good c u) (Classical.propDecidable _) (some u) none = some v := e
        rw [if_pos k] at e
        cases e; exact ⟨rfl, k⟩
      · have e : @ite _ (good c u) (Classical.propDecidable _) (some u) none = some v := e
        rw [if_neg k] at e; cases e
  refine ⟨R0, fun c n v e => (key c n v e).1, fun c n v e k => ?_, fun D hD hk => ?_⟩
  · have := (key c n v e).2
    rw [hg] at this
    exact this k
  · obtain ⟨h1, ⟨q, n, q1, q2, q3, q4, q5⟩, h3⟩ := hD
    refine ⟨h1, ⟨q, n, q1, q2, q3, q4, ?_⟩, h3⟩
    rw [hR0, q5]
    show @ite _ (good (tw T q) ((D.1 0, D.1 1, D.1 2, D.1 7), D.2)) (Classical.propDecidable _) _ none = _
    rw [if_pos]
    rw [hg]
    intro k
    obtain ⟨p, p1, p2, p3⟩ := hk k
    have b1 := tv_192 hc p1
    have b2 := tv_192 hc q1
    have e : p = q := zad_inj (by omega) (by omega) (p2.symm.trans q2)
    subst e
    exact ⟨p, p1, rfl, p2, zRkD_cg rfl rfl rfl p3⟩
theorem zW1_clean {z w : St} {T : Tp} {E : Ev} {tl Nm : Nat → Nat} {Wy : Wyt} {u5 : Nat → Prop} {K : Int32 → Int32 → Int32 → Prop} {g : Sg} {R : Rg} {mk : Nat → Nat} {S : Nat → Rs} {Lp : Nat → List Pe} {od : Nat → Nat} (h : zW1 z w T E tl Nm Wy u5 K g R mk S Lp od [] []) : ∃ R0, zW1 z w T E tl Nm Wy u5 K g R0 mk S Lp od [] [] ∧ zRok (Qg T Nm) T R0 := by
  obtain ⟨hp, hB, hA, hP, hMs, hQ, hrP, h5⟩ := h
  have hc := hp.1.1.2.1
  obtain ⟨R0, a1, a2, a3⟩ := rClean (Qg T Nm) hc R
  obtain ⟨⟨p1, p2, p3, p4, p5⟩, hR, hW⟩ := hp
  refine ⟨R0, ⟨⟨⟨p1, p2, p3, ⟨p4.1, p4.2.1, p4.2.2.1, fun f hf => ⟨(p4.2.2.2.1 f hf).1, fun k5 k6 => a3 _ ((p4.2.2.2.1 f hf).2 k5 k6) (fun k => ?_)⟩, fun q hq D hD => a3 _ (p4.2.2.2.2 q hq D hD) (fun k => ?_)⟩, p5⟩, ⟨fun b n v e => hR.1 b n v (a1 b n v e), hR.2⟩, hW⟩, hB, hA, fun b hb => ?_, hMs, hQ, hrP, h5⟩, a2⟩
  · obtain ⟨p, q1, -, -, -, -, q6, -⟩ := hQ.1 f hf
    obtain ⟨y1, -, y3⟩ := q6 k
    exact ⟨p, q1, y1, y3⟩
  · obtain ⟨q6, -⟩ := hQ.2.1 q hq D hD
    obtain ⟨y1, -, y3⟩ := q6 k
    exact ⟨q, hq, y1, y3⟩
  · obtain ⟨c1, c2, c3, c4⟩ := hP b hb
    refine ⟨c1, c2, fun e he => ?_, c4⟩
    obtain ⟨b1, ⟨D0, b2, b3⟩, b4⟩ := c3 e he
    refine ⟨b1, ⟨D0, a3 D0 b2 (fun k => ?_), b3⟩, b4⟩
    obtain ⟨p, p1, p2⟩ := hrP b hb e he
    rw [b3] at p2
    obtain ⟨y1, -, y3⟩ := p2 k
    exact ⟨p, p1, y1, zRkD_cg rfl rfl rfl y3⟩
theorem zRch_Q {Q : Qt} {T : Tp} {E : Ev} {b : Nat} {g g' : Sg} {QF : Fr → Prop} {QW : Nat → Nat → Dg → Prop} {QD : Nat → Int32 → Dg → Prop} (hc : zQcl T E QF QW QD) (hw : zEw T E) (h0 : zGI T E (fun _ => True) g) (hPD : ∀ q to D, tv T q → tw T q = b → PDr Q T q to D → QD q to D) (h : zRch T E b (PDr Q T) g g') (hq : zQI T QF QW g) : zQI T QF QW g' ∧ zAp E g g' := by
  have tr : zPcl (fun _ : Dg => True) := fun _ _ _ _ _ _ _ _ _ _ => trivial
  have nk : ∀ {q to D}, PDr Q T q to D → ¬ D.1 2 = 5 ∧ ¬ D.1 2 = 6 := fun {q to D} hD => by
    rcases hD.1 with e | e | e <;> (rw [e]; decide)
  have := h (fun k => zGI T E (fun _ => True) k ∧ zQI T QF QW k ∧ zAp E g k) (fun k q s D hq hb hs hD ⟨i1, i2, i3⟩ => ⟨nHand_I hw tr hq hs hD.2.2.2.1 (nk hD) trivial i1, nHand_Q hc hw i1.1.2.1 i1.1.2.2.2.2 (fun G hG => by
    rw [i1.1.2.2.2.1 q (wTo G) hq, List.any_eq_true]
    exact ⟨G, hG, by simp⟩) hq hs hD.2.2.2.1 (hPD q _ D hq hb hD) i2, zAp_tr i3 (nHand_Ap (zEw_d hw hq))⟩) (fun k q to D hq hb hto hD ⟨i1, i2, i3⟩ => ⟨nCarry_I hw hq tr hD.2.2.2.1 trivial hto i1, nCarry_Q hc hw hq hD.2.2.2.1 (hPD q _ D hq hb hD) i2, zAp_tr i3 (nCarry_Ap (zEw_d hw hq))⟩) ⟨h0, hq, zAp_rf E g⟩
  exact ⟨this.2.1, this.2.2⟩
def mTuM : Nat := mX19_neighbours ||| (mX19_base ||| (mX19_ownAdvert ||| (mX19_routerSpeaks ||| mX19_ways)))
theorem wTuM {N b : Nat} {w : St} : zPw mTuM w (zc (fX19_neighbours N b (zgI w 19 24 0) w) fun _ z4 => zc (fX19_base N 0 b z4) fun _ z8 => zc (fX19_ownAdvert N 0 b z8) fun _ z12 => zc (fX19_routerSpeaks N 0 b z12) fun _ z16 => zc (fX19_ways N 0 b z16) fun _ z20 => some ((0 : Int32), z20)) :=
  zw_c (wX19_neighbours (by decide) (zFr_rf _ _)) fun _ _ h1 => zw_c (wX19_base (by decide) h1) fun _ _ h2 => zw_c (wX19_ownAdvert (by decide) h2) fun _ _ h3 => zw_c (wX19_routerSpeaks (by decide) h3) fun _ _ h4 => zw_c (wX19_ways (by decide) h4) fun _ _ h5 => zw_s h5
theorem zp_turnW {z w : St} {T : Tp} {E : Ev} {tl Nm : Nat → Nat} {Wy : Wyt} {u5 : Nat → Prop} {K : Int32 → Int32 → Int32 → Prop} {g : Sg} {R : Rg} {mk : Nat → Nat} {S : Nat → Rs} {Lp : Nat → List Pe} {od : Nat → Nat} {b N : Nat} (h : zW1 z w T E tl Nm Wy u5 K g R mk S Lp od [] []) (hu : ∀ n, u5 n → eU E n = true) (hb : b < tb T) (hr : tr T b = true) (hm : mk b + 400 < 2147483646) (hNm : Nm b + 1 ≤ 16000000) (hE4 : eN E ≤ 400000) (hN : 1481 < N) :
    ∃ z' w' g' Wy' R' mk' s', fX11_doRouter N 0 b z = some (0, z') ∧ (∀ K : St → Option (Int32 × St), (zc (fX19_neighbours N b (zgI w 19 24 0) w) fun _ z4 => zc (fX19_base N 0 b z4) fun _ z8 => zc (fX19_ownAdvert N 0 b z8) fun _ z12 => zc (fX19_routerSpeaks N 0 b z12) fun _ z16 => zc (fX19_ways N 0 b z16) fun _ z20 => K z20) = K w') ∧ zW1 z' w' T E tl (zupd Nm b (Nm b + 1)) Wy' u5 K g' R' mk' (zupd S b s') Lp od [] [] ∧ (∀ c, mk c ≤ mk' c ∧ mk' c ≤ mk c + (if c = b then 326 else 0)) ∧ eN E < rm s' + 2000 ∧ (∀ j, j < tp T b → zgI w' 18 5 (tq T b j) = zbi (eU E (tq T b j / 8))) ∧ (∀ c, c ≠ b → c < tb T → tr T c = true → ∀ j, j < tp T c → zgI w' 18 5 (tq T c j) = zgI w 18 5 (tq T c j)) ∧ zJq T z z' w w' ∧ zUd z z' ∧ zAp E g g' ∧ ∀ QF QW QD, zQcl T E QF QW QD → (∀ q to D, tv T q → tw T q = b → (D.1 2 = 2 ∨ D.1 2 = 3 ∨ D.1 2 = 4) → QD q to D) → zQI T QF QW g → zQI T QF QW g' := by
  obtain ⟨R0, h0, hok⟩ := zW1_clean h
  obtain ⟨hp, hB, hA, hP, hMs, hQ, hrP, h5⟩ := id h0
  have hc := hp.1.1.2.1
  obtain ⟨hg, hyw, hEw, i15⟩ := zGw_ip hp
  have hTB : (zTB w T).length ≤ 192 := zMB_len (⟨hp.1.2.1, hB.1⟩ : zMB w T E g K [] [] (zTA w T))
  obtain ⟨z', w', g', V', R', mk', s', a1, a2, a3, a4, a5, a6, a7, a8, ⟨a9, a10⟩, ⟨a11, a12⟩, a13, a14, a15, a16, a17⟩ := zp_turn (N := N) hp hok hm hE4 hb hr (by simp; omega) hA.1 hA.2.1 (hA.2.2 b hb hr) hNm hN
  have f1 : zFr mX11_doRouter z z' := wX11_doRouter (Nat.and_self _) (zFr_rf _ _) _ _ a1
  have f2 : zFr mTuM w w' := wTuM _ _ (a2 (fun u => some ((0 : Int32), u)))
  have TB1 : zTB w' T = zTB w T := zTB_cg (fun j v hj => by rcases hj with rfl | rfl <;> exact zFr_gI f2 (by decide) (by decide) v)
  have NmUp : ∀ r, Nm r ≤ zupd Nm b (Nm b + 1) r := fun r => by
    by_cases e : r = b
    · rw [e, zupd_s]; omega
    · rw [zupd_n e]; exact Nat.le_refl _
  have gi0 : zGI T E (fun _ => True) g := by
    obtain ⟨⟨-, -, -, p4, -⟩, -⟩ := hp
    exact zGI_mono (fun _ _ => trivial) p4
  have cl : ∀ QF QW QD, zQcl T E QF QW QD → (∀ q to D, tv T q → tw T q = b → PDr (Qg T (zupd Nm b (Nm b + 1))) T q to D → QD q to D) → zQI T QF QW g → zQI T QF QW g' := fun QF QW QD c y q => (zRch_Q c hEw gi0 y a6 q).1
  have ap : zAp E g g' := (zRch_Q (QF := fun _ => True) (QW := fun _ _ _ => True) (QD := fun _ _ _ => True) ⟨fun _ _ _ _ _ _ _ _ _ _ _ _ _ => trivial, fun _ _ _ _ _ _ _ _ _ _ => trivial, fun _ _ _ _ _ _ _ _ _ _ _ _ _ _ => trivial, fun _ _ _ _ _ _ _ _ => trivial, fun _ _ => trivial⟩ hEw gi0 (fun _ _ _ _ _ _ => trivial) a6 ⟨fun _ _ => trivial, fun _ _ _ _ => trivial, fun _ _ _ _ => trivial⟩).2
  have hQ1 : zQI T (rF T E (zupd Nm b (Nm b + 1)) u5) (fun q _ D => rW T (zupd Nm b (Nm b + 1)) q D) g := zQI_mono (fun f ⟨p, q1, q2, q3, q4, q5, q6, q7⟩ => ⟨p, q1, q2, q3, q4, q5, rK_up NmUp q6, q7⟩) (fun q a D _ ⟨q1, q2⟩ => ⟨rK_up NmUp q1, q2⟩) hQ
  have hQ' := cl _ _ _ (rQcl hEw hc) (fun q to D hq hqb hD => ⟨fun _ => ⟨hD.2.1, by rw [hqb]; exact hr, hD.2.2.1⟩, fun _ => hD.2.2.2.2.2⟩) hQ1
  have b16 : b < 16 := Nat.lt_of_lt_of_le hb hc.1
  refine ⟨z', w', g', V', R', mk', s', a1, a2, ⟨by rw [TB1]; exact a3, zB44_a (zAgr_fr f1 (by decide)) (zAgr_fr f2 (by decide)) hB, ⟨a11, a12, fun c hcb hcr => ?_⟩, fun c hcb => ?_, zMs_a (zAgr_fr f1 (by decide)) (zAgr_fr f2 (by decide)) hMs, hQ', fun c hcb e he => ?_, fun n hn q hq hqn hqr => ?_⟩, a7, a9, a17, fun c hcb hcT hcr j hj => (a15 c hcb hcT hcr).2.2.2 j hj, ⟨zS4_fr (zS4_rf hp.1.1.1) f1 (by decide) (by decide), zAgr_fr f1 (by decide), zAgr_fr f2 (by decide)⟩, zUd_fr (zUd_rf z) f1 (by decide), ap, fun QF QW QD c y q => cl QF QW QD c (fun q to D hq hqb hD => y q to D hq hqb hD.1) q⟩
  · by_cases e : c = b
    · subst e
      rw [zupd_s]; exact a8
    · rw [zupd_n e]
      exact zRx_ot a14 a15 e hcb hcr (fun n => a13 c n e) NmUp (hA.2.2 c hcb hcr)
  · exact zPp_a (Nat.lt_of_lt_of_le hcb hc.1) (zAgr_fr f1 (by decide)) (fun v v1 v2 => ⟨fun j _ => (a16 v v1 v2).1 j, (a16 v v1 v2).2⟩) (zAgr_fr f2 (by decide)) a5 (hP c hcb)
  · obtain ⟨p, p1, p2⟩ := hrP c hcb e he
    exact ⟨p, p1, rK_up NmUp p2⟩
  · obtain ⟨q1, q2, q3⟩ := hc.2.2.2.2.2.1 q hq
    by_cases e : tw T q = b
    · have := a17 (ti T q) (by rw [← e]; exact q2)
      rw [← e, q3, hqn, hu n hn] at this
      exact this
    · have := (a15 (tw T q) e q1 hqr).2.2.2 (ti T q) q2
      rw [q3] at this
      exact this.trans (h5 n hn q hq hqn hqr)
