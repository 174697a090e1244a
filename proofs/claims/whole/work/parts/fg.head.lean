/-! a frame is heard at a station: all of the world, to where its content is looked at; what is passed on -/
theorem zPm_fr {w w' : St} {T : Tp} {K : Int32 → Int32 → Int32 → Prop} {X : List Nat} {kind addr dv : Int32} {D : Dg} (k : ∀ d G, d ∈ X → zMD w T K d G → zMD w' T K d G) (h : zPm w T K X kind addr dv D) : zPm w' T K X kind addr dv D := by
  rcases h with h | h | ⟨h1, h2, h3, h4, d, h5, h6, h7⟩
  · exact Or.inl h
  · exact Or.inr (Or.inl h)
  · exact Or.inr (Or.inr ⟨h1, h2, h3, h4, d, h5, h6, k d D h5 h7⟩)
theorem zGw_ip {z w : St} {T : Tp} {E : Ev} {g : Sg} {Wy : Wyt} {R : Rg} {mk : Nat → Nat} {K : Int32 → Int32 → Int32 → Prop} {X XM TS TA TB : List Nat} (hp : zIp z w T E g g Wy R mk K X XM TS TA TB) : zGw T E g ∧ zWyw T Wy ∧ zEw T E ∧ zgI z 11 15 0 = 0 := by
  obtain ⟨⟨p1, -, -, p4, ⟨-, -, p7⟩, -, -, p10⟩, -⟩ := hp
  exact ⟨p4.1, p7, p1.2.2.2.1, p10⟩
theorem zp_head {z w : St} {T : Tp} {E : Ev} {tl Nm : Nat → Nat} {Wy : Wyt} {u5 : Nat → Prop} {K : Int32 → Int32 → Int32 → Prop} {g : Sg} {R : Rg} {mk : Nat → Nat} {S : Nat → Rs} {Lp : Nat → List Pe} {od : Nat → Nat} {X XM : List Nat} {q s x N : Nat} {to kind addr data : Int32} (h : zW1 z w T E tl Nm Wy u5 K g R mk S Lp od X XM) (hX : XM.length ≤ 36) (hq : tv T q) (hs : s < 8) (h13 : zgI z 7 13 x = Int32.ofNat s) (hxX : x ∈ X) (hN : 1481 < N) :
    ∃ z' w', fX11_arriveAt N 0 q x z = fX11_arriveAt_51 N 0 q x (some (tw T q)) z' ∧ fX19_arrive N 0 q (Int32.ofNat s) to kind addr data (zsI w 16 9 (q / 8) (zgI w 16 9 (q / 8) + 1)) = fX19_arrive_68 N 0 q (Int32.ofNat s) to kind addr data w' ∧ zW1 z' w' T E tl Nm Wy u5 K (nHeard E (tw T q) g q s) R mk S Lp od X XM ∧ zKp X z z' ∧ zKm XM w w' ∧ zJq T z z' w w' ∧ zUd z z' ∧ ∀ QF QW QD, zQcl T E QF QW QD → zQI T QF QW g → zQI T QF QW (nHeard E (tw T q) g q s) := by
  obtain ⟨h1, hB, hA, hP, hMs, hQ, hrP, h5⟩ := id h
  have hc := h1.1.1.2.1
  obtain ⟨hg, -, hEw, -⟩ := zGw_ip h1
  obtain ⟨z', w', a1, a2, a3, a4, a5, f1, f2, a6, a7⟩ := zp_arriveHead (to := to) (kind := kind) (addr := addr) (data := data) (N := N) h1 hq hs h13 hxX (by omega) hN
  have TA1 : zTA w' T = zTA w T := zTA_cg (fun c k _ _ => zFr_gA f2 (by decide) c k)
  have TB1 : zTB w' T = zTB w T := zTB_cg (fun j v hj => by rcases hj with rfl | rfl <;> exact zFr_gI f2 (by decide) (by decide) v)
  have cl : ∀ QF QW QD, zQcl T E QF QW QD → zQI T QF QW g → zQI T QF QW (nHeard E (tw T q) g q s) := fun QF QW QD c y => nHeard_Q c hEw hg.1 hq y
  have ks : zKs z z' := fun v v1 v2 => ⟨fun j _ => (a4 v (by omega)).1 j, (a4 v (by omega)).2⟩
  refine ⟨z', w', a1, a2, ⟨by rw [TA1, TB1]; exact a3, zB44_a (zAgr_fr f1 (by decide)) (zAgr_fr f2 (by decide)) hB, zWa_a hc (zAgr_fr f1 (by decide)) (zAgr_fr f2 (by decide)) hA, zWp_a hc (zAgr_fr f1 (by decide)) ks (zAgr_fr f2 (by decide)) (fun _ _ _ y => y) hP, ⟨fun n => ?_, fun e he => ?_, ?_, fun b hb => ?_⟩, cl _ _ _ (rQcl hEw hc) hQ, hrP, zU5_a (zAgr_fr f2 (by decide)) h5⟩, a4, a5, ⟨zS4_fr (zS4_rf h1.1.1.1) f1 (by decide) (by decide), zAgr_fr f1 (by decide), zAgr_fr f2 (by decide)⟩, zUd_fr (zUd_rf z) f1 (by decide), cl⟩
  · rw [a6, a7, hMs.1 n]
  · rw [zFr_gI f1 (by decide) (by decide) e, zFr_gI f1 (by decide) (by decide) e]; exact hMs.2.1 e he
  · rw [zFr_gI f1 (by decide) (by decide) 0, zFr_gI f2 (by decide) (by decide) 0]; exact hMs.2.2.1
  · rw [zFr_gI f1 (by decide) (by decide) b, zFr_gI f2 (by decide) (by decide) b]; exact hMs.2.2.2 b hb
/-- passed on -/
theorem zp_pass {z w : St} {T : Tp} {E : Ev} {tl Nm : Nat → Nat} {Wy : Wyt} {u5 : Nat → Prop} {K : Int32 → Int32 → Int32 → Prop} {g : Sg} {R : Rg} {mk : Nat → Nat} {S : Nat → Rs} {Lp : Nat → List Pe} {od : Nat → Nat} {X XM : List Nat} {q b x c N : Nat} {D : Dg} (h : zW1 z w T E tl Nm Wy u5 K g R mk S Lp od X (c :: XM)) (hX : XM.length ≤ 36) (hq : tv T q) (hb : tw T q = b) (hr : tr T b = true) (hm : mk b < 2147483646) (hx : x ∈ X) (hxc : zPC 14 z x D) (hPd : zPd T R D) (hk : D.1 2 = 0 ∨ D.1 2 = 1) (hDm : zMD w T K c (dPt D (ti T q))) (hN : 1481 < N) :
    ∃ z6 z' w' g' R' mk', fX11_forward N 0 q x z = some (0, z6) ∧ zTl N b z6 z' ∧ fX19_arrive_196 N 0 q (Int32.ofNat c) w = some (0, w') ∧ zW1 z' w' T E tl Nm Wy u5 K g' R' mk' S Lp od X XM ∧ (∀ j, j ≠ 4 → j ≠ 10 → zgI z' 7 j x = zgI z 7 j x) ∧ (∀ d G, d ∈ XM → zMD w T K d G → zMD w' T K d G) ∧ (∀ c n v, R c n = some v → R' c n = some v) ∧ (∀ v, mk' v ≤ mk v + (if v = b then 1 else 0)) ∧ zUd z z' ∧ zJq T z z' w w' ∧ zGs T E Wy b (fun G => (∃ l, 2 ≤ l ∧ l ≤ 64 ∧ D.1 4 = Int32.ofNat l ∧ G = dHop D (ti T q) (Int32.ofNat (l - 1))) ∨ G.1 2 = 0) g g' := by
  subst hb
  obtain ⟨h1, hB, hA, hP, hMs, hQ, hrP, h5⟩ := id h
  have hc := h1.1.1.2.1
  obtain ⟨hg, hyw, hEw, -⟩ := zGw_ip h1
  have hqb := (hc.2.2.2.2.2.1 q hq).1
  have c24 : c < 2400 := hDm.1.1
  have hDm' : zMD w T K c (dHop D (ti T q) (D.1 4)) := zMD_cg (D := dPt D (ti T q)) c24 (fun _ _ => rfl) (fun _ _ => rfl) (fun _ _ => rfl) (fun _ _ => rfl) rfl (fun j _ => by
    show (if j = 10 then Int32.ofNat (ti T q) else if j = 4 then D.1 4 else D.1 j) = if j = 10 then Int32.ofNat (ti T q) else D.1 j
    by_cases e : j = 4
    · subst e; rfl
    · rw [if_neg e]) hDm
  obtain ⟨z1, z2, w1, g', R', mk', a1, a2, a3, a4, a5, a6, a7, a8, a9, b1⟩ := zIp_forward (N := N) h1 hm hq hr hx ⟨fun j hj h8 => hxc.1 j (by omega) h8, hxc.2⟩ hPd ⟨fun y => by rcases hk with e | e <;> (rw [e] at y; exact absurd y (by decide)), fun y => by rcases hk with e | e <;> (rw [e] at y; exact absurd y (by decide))⟩ (by omega) hDm' hN
  have fm := wX19_forward (Nat.and_self mX19_forward) (zFr_rf _ _) _ _ a3
  have f1 := wX11_forward (Nat.and_self mX11_forward) (zFr_rf _ _) _ _ a1
  have TA1 : zTA w1 T = zTA w T := zTA_cg (fun c k _ _ => zFr_gA fm (by decide) c k)
  have TB1 : zTB w1 T = zTB w T := zTB_cg (fun j v hj => by rcases hj with rfl | rfl <;> exact zFr_gI fm (by decide) (by decide) v)
  have fc : zFr mNwC z z2 := by
    rcases a2 with ⟨-, y⟩ | ⟨-, y⟩
    · rw [y]; exact zFr_w f1 (by decide)
    · have f2 := wX11_sendOff (Nat.and_self mX11_sendOff) (zFr_rf _ _) _ _ y
      exact zFr_tr (zFr_w f1 (by decide)) (zFr_tr (zFr_w (m := 0x800000000000000000000000000000000000000000000000000000000000000000000000000000000000000000000000000000000000000000000000000000000000000000000000000000000000000000000000000000000000) (zFr_I (zFr_rf _ _) (by decide)) (by decide)) (zFr_w f2 (by decide)))
  have s4 : zS4 T z z2 := by
    have s1 : zS4 T z z1 := zS4_forward (N := N) hc hq (zS4_rf h1.1.1.1) _ _ a1
    rcases a2 with ⟨-, y⟩ | ⟨-, y⟩
    · rw [y]; exact s1
    · have s2 : zS4 T z (zsI z1 11 15 0 0) := zS4_fr s1 (M := 0x800000000000000000000000000000000000000000000000000000000000000000000000000000000000000000000000000000000000000000000000000000000000000000000000000000000000000000000000000000000000) (zFr_I (zFr_rf _ _) (by decide)) (by decide) (by decide)
      exact zS4_sendOff (N := N) hc hqb s2 _ _ y
  have qt : zQt T z z2 w w1 := ⟨fc, fun v v1 v2 => ⟨fun j _ => (a5 v v1 v2).1 j, (a5 v v1 v2).2⟩, s4, zFr_w fm (by decide)⟩
  have Q' := zGs_Q (rQcl (Nm := Nm) (u5 := u5) hEw hc) hEw hc hyw hqb hg (fun G p t hG _ _ _ => rD_no (by
    rcases hG with ⟨l, -, -, -, e⟩ | e
    · rw [e]
      rcases hk with y | y
      · exact Or.inl y
      · exact Or.inr (Or.inl y)
    · exact Or.inl e)) hQ b1
  have W1 := zW1_q h qt (by rw [TA1, TB1]; exact a4) a8 Q'
  obtain ⟨w', c1, c2, c3, c4⟩ := zW1_drop (N := N) W1
  refine ⟨z1, z2, w', g', R', mk', a1, a2, ?_, c2, a6, fun d G hd hG => c4 d G hd (zMD_fr (M := 0) a7 hd hG), a8, fun v => (a9 v).2, zUd_q (zUd_rf z) qt, zJq_tr (zJq_q qt) (zJq_q (zQt_drop c2.1.1.1.1 c3)), b1⟩
  unfold fX19_arrive_196 fX19_arrive_206
  rw [(h1.1.2.1.1.2.2.2 q hq).1, zl_e, zd_e, a3, zc_e, c1, zc_e]
