/-! a router hears another: all routers, both sides -/
theorem zIp_S {z w : St} {T : Tp} {E : Ev} {g : Sg} {Wy : Wyt} {R : Rg} {mk : Nat → Nat} {K : Int32 → Int32 → Int32 → Prop} {X XM TS TA TB : List Nat} (hp : zIp z w T E g g Wy R mk K X XM TS TA TB) : zgI z 11 5 0 = Int32.ofNat (gS g) ∧ zgI w 19 27 0 = Int32.ofNat (gS g) := by
  obtain ⟨⟨p1, p2, p3⟩, hR⟩ := hp
  obtain ⟨h1, h2, h3, h4, ⟨t1, t2, t3⟩, h6⟩ := p1
  have hm := p2.2.2.2.2.1
  refine ⟨t2.2.2, ?_⟩
  exact hm.2.1.2.2
theorem zRx_hd {z z' w w' : St} {T : Tp} {E : Ev} {tl Nm : Nat → Nat} {V : Wyt} {b : Nat} {s s' : Rs} (hc : zTc T) (hX : zRx z w T E tl Nm V b s) (hR : zRp z' w' T E b s') (e1 : rm s' = rm s) (e2 : ro s' = ro s) (hd : zHd (Qg T Nm) b (eN E) s s') (f1 : zFr mX11_takeAsRouter z z') (f2 : zFr mX19_handle_100 w w') (c1 : zgI z' 9 10 b = zgI z 9 10 b ∨ zgI z' 9 10 b = 1) (c2 : (∀ key, fn (rH s') key = fn (rH s) key) ∨ zgI z' 9 10 b = 1) (c3 : (zgI z' 0 9 b = zgI z 0 9 b ∧ rB s' = rB s) ∨ zgI z' 0 9 b = 1) (m1 : zgI w' 12 24 b = zgI w 12 24 b ∨ zgI w' 12 24 b = 1) (m2 : (∀ key, fn (rH s') key = fn (rH s) key) ∨ zgI w' 12 24 b = 1) (m3 : (zgI w' 12 23 b = zgI w 12 23 b ∧ rB s' = rB s) ∨ zgI w' 12 23 b = 1) : zRx z' w' T E tl Nm V b s' := by
  obtain ⟨h1, ⟨o1, o2, o3, o4⟩, ⟨b1, b2⟩, t1, v1, ⟨fc, E', u1, u2, u3⟩, h01⟩ := hX
  obtain ⟨d1, d2, d3, d4⟩ := hd
  have pw0 := h1.2.2.1.1.1.2.1
  have pw1 := hR.2.2.1.1.1.2.1
  have fk : (∀ key, fn (rH s') key = fn (rH s) key) → fks (rH s') = fks (rH s) := fun h => fks_cg pw0 pw1 h
  have eL : bLs (rB s') b = bLs (rB s) b := by unfold bLs; rw [d4]
  have eE : bE (rB s') b = bE (rB s) b := by unfold bE; rw [d4]
  refine ⟨hR, ⟨?_, fun y => ?_, ?_, ?_⟩, ⟨fun r a h => ?_, by rw [eE]; exact b2⟩, fun e he => (d3 e he).elim (t1 e) id, v1, ⟨fun y => ⟨fun q => ?_, fun q => ?_⟩, E', fun j hj => (zFr_gI f2 (by decide) (by decide) _).trans (u1 j hj), fun q => ?_, fun q => ?_⟩, ?_⟩
  · unfold zOw at o1 ⊢
    rw [e2, e1, d4]; exact o1
  · rw [e2] at y; rw [e1]; exact o2 y
  · rw [e2]; exact o3
  · rcases d2 with y | ⟨L, y⟩
    · rw [y]; exact o4
    · exact y.1
  · rcases d1 r a h with y | ⟨-, y1, y2, y3⟩
    · exact b1 r a y
    · exact ⟨by omega, y3, y1⟩
  · have y' : zgI z 9 11 b = zgI z 11 6 0 := by
      rw [zFr_gI f1 (by decide) (by decide) b, zFr_gI f1 (by decide) (by decide) 0] at y; exact y
    have a := (fc y').1
    rcases c1 with c1 | c1
    · rcases c2 with c2 | c2
      · rw [eL, fk c2]; exact a (c1.symm.trans q)
      · rw [c2] at q; exact absurd q zi10
    · rw [c1] at q; exact absurd q zi10
  · have y' : zgI z 9 11 b = zgI z 11 6 0 := by
      rw [zFr_gI f1 (by decide) (by decide) b, zFr_gI f1 (by decide) (by decide) 0] at y; exact y
    rcases c3 with ⟨c3, c4⟩ | c3
    · rw [c4]; exact (fc y').2 (c3.symm.trans q)
    · rw [c3] at q; exact absurd q zi10
  · rcases m1 with m1 | m1
    · rcases m2 with m2 | m2
      · rw [eL, fk m2]; exact u2 (m1.symm.trans q)
      · rw [m2] at q; exact absurd q zi10
    · rw [m1] at q; exact absurd q zi10
  · rcases m3 with ⟨m3, m4⟩ | m3
    · rw [m4]; exact u3 (m3.symm.trans q)
    · rw [m3] at q; exact absurd q zi10
  · rcases m3 with ⟨m3, -⟩ | m3
    · rw [m3]; exact h01
    · exact Or.inr m3
theorem zp_hdR {z w : St} {T : Tp} {E : Ev} {K : Int32 → Int32 → Int32 → Prop} {g : Sg} {Wy : Wyt} {R : Rg} {mk tl Nm : Nat → Nat} {S : Nat → Rs} {X XM TS TB : List Nat} {q p x d N : Nat} {D Dc : Dg} (hp : zIp z w T E g g Wy R mk K X XM TS (zTA w T) TB) (hE4 : eN E ≤ 400000) (hq : tv T q) (hpv : tv T p) (hpq : p / 8 = q / 8) (hr : tr T (tw T p) = true) (hrq : tr T (tw T q) = true) (hne : tw T p ≠ tw T q) (hx1 : zPC 10 z x Dc) (hf : df Dc = 0) (hl : dl Dc = dw D) (hD0 : Dc.1 0 = D.1 0) (hD2 : Dc.1 2 = D.1 2) (hDb : Dc.2 = D.2) (hs : D.1 0 = zad p) (hk : zRkD (Qg T Nm) T p D) (hd : d ∈ XM) (hD : zMD w T K d D) (h9 : D.1 10 = Int32.ofNat (ti T q)) (hTT : TS.length + TB.length ≤ 4000) (hup : zgI w 18 5 q = 1) (hA : zWa z w T E tl Nm Wy S) (hN : 24 < N) :
    ∃ z' w' s' t, fX11_takeAsRouter N 0 q x z = some (0, z') ∧ fX19_handle_100 N 0 (tw T q) (Int32.ofNat d) (D.1 2) w = some (0, w') ∧ zIp z' w' T E (sS g t) (sS g t) Wy R mk K X XM TS (zTA w' T) TB ∧ zWa z' w' T E tl Nm Wy (zupd S (tw T q) s') ∧ zFr mX11_takeAsRouter z z' ∧ zFr mX19_handle_100 w w' ∧ zKm XM w w' ∧ (t = gS g ∨ t = eN E) ∧ zK7 z z' := by
  have hT := hp.1.1.1
  have hc := hp.1.1.2.1
  obtain ⟨hb, hti, htq⟩ := hc.2.2.2.2.2.1 q hq
  have hEz : zgI z 11 4 0 = Int32.ofNat (eN E) := hp.1.1.2.2.1.1
  have hE1 : 1 ≤ eN E := hp.1.2.2.1.2.2.2
  have hXb := hA.2.2 _ hb hrq
  have hS := (zIp_S hp).1
  obtain ⟨z', w', s', t, a1, a2, a3, a4, a5, a6, ⟨b1, b2, b3, b4, b5, b6⟩, ⟨c1, c2, c3, c4, c5, c6⟩, d1, d2, d3⟩ := zp_hears (Q := Qg T Nm) (N := N) hT hEz ⟨hE1, hE4⟩ hq hpv hpq hr hrq hne hx1 hf hl hD0 hD2 hDb hs hk hp.1.2.1 hd hD h9 hTT hup hXb.1 hS hN
  have f1 : zFr mX11_takeAsRouter z z' := wX11_takeAsRouter (Nat.and_self _) (zFr_rf _ _) _ _ a1
  have f2 : zFr mX19_handle_100 w w' := wX19_handle_100 (Nat.and_self _) (zFr_rf _ _) _ _ a2
  have I0 := zIp_stir (t := t) hp
  have tn : zTnC (tw T q) (zsI z 11 5 0 (Int32.ofNat t)) z' := ⟨fun k j o n => by
    by_cases h : (k = 9 ∨ k = 0) ∧ o = tw T q
    · rw [zgI_sI, if_neg (by omega)]
      exact b2 k j o (by omega) (by omega) (by omega)
    · exact b3.1 k j o h, b3⟩
  have I1 := zIp_tnC tn I0
  have fs : zFr 0x80000000000000000000000000000000000000000000000000000000000000000000000000000000000000000000000000000000000000000000000000000000000000000000000000000000000000000000000000000000000000000000000000000000000000000000000000000000000000000000000000000000000000000000000000000000000000000000000000000000000000000000000 w (zsI w 19 27 0 (Int32.ofNat t)) := zFr_I (zFr_rf _ _) (by decide)
  have f3 : zFr mX19_handle_100 (zsI w 19 27 0 (Int32.ofNat t)) w' := zFr_tr (zFr_sym (zFr_w fs (by decide))) f2
  have I2 := zIp_tnM f3 (by decide) (by decide) (by decide) a4 I1
  refine ⟨z', w', s', t, a1, a2, I2, ⟨fun p hv => ⟨(zFr_gI f1 (by decide) (by decide) p).trans (hA.1 p hv).1, (hA.1 p hv).2⟩, fun p hv => ⟨(zFr_gI f2 (by decide) (by decide) p).trans (hA.2.1 p hv).1, (hA.2.1 p hv).2⟩, fun c hcb hcr => ?_⟩, f1, f2, a5, a6, fun u => ⟨fun j _ => b2 7 j u (by omega) (by omega) (by omega), fun i => b3.2.1 125 u i (by omega) (by omega) (by omega)⟩⟩
  by_cases e : c = tw T q
  · subst e
    rw [zupd_s]
    exact zRx_hd hc hXb a3 d1 d2 d3 f1 f2 b4 b5 b6 c4 c5 c6
  · rw [zupd_n e]
    have oc : zOtC (tw T q) z z' := fun c hcq => by
      refine ⟨fun s hR => zRcl_kr b3 hcq (zRcl_cg (fun j _ => by rw [zgI_sI, if_neg (by omega)]) (fun j _ => by rw [zgI_sI, if_neg (by omega)]) (fun _ _ _ _ => rfl) hR), b2 9 10 c (by omega) (by omega) (by omega), b2 9 11 c (by omega) (by omega) (by omega), b2 0 9 c (by omega) (by omega) (by omega), zFr_gI f1 (by decide) (by decide) 0⟩
    have om : zOtM T (tw T q) w w' := zOtM_mr hc c3 (fun y _ _ k _ => a5.2.2.1 0 _)
    exact zRx_ot oc om e hcb hcr (fun _ => rfl) (fun _ => Nat.le_refl _) (hA.2.2 c hcb hcr)
