/-! a router's turn, to where it begins to speak -/
/-- what stands of draft and ways, both sides -/
def zFl (z w : St) (T : Tp) (E : Ev) (tl : Nat → Nat) (V : Wyt) (b : Nat) (s : Rs) : Prop :=
  (zgI z 9 10 b = 0 → bLs (rB s) b = some (rDr T E tl b (fks (rH s)))) ∧ (zgI z 0 9 b = 0 → ∀ n, n < 24 → V b n = wI (cWay T E tl b (rB s) n)) ∧ (zgI w 12 24 b = 0 → bLs (rB s) b = some (rDr T E tl b (fks (rH s)))) ∧ (zgI w 12 23 b = 0 → ∀ n, n < 24 → V b n = wI (cWay T E tl b (rB s) n)) ∧ (zgI w 12 23 b = 0 ∨ zgI w 12 23 b = 1)
theorem zi10 : ¬ (1 : Int32) = 0 := by decide
/-- the class looks whether the world is another one -/
theorem zc_seen {z : St} {T : Tp} {E : Ev} {tl : Nat → Nat} {V : Wyt} {b N : Nat} {s : Rs} (hT : zTC z T) (hb : b < tb T) (hr : tr T b = true) (hR : zRcl z b s) (hf : zFgC z T E tl V b s) :
    ∃ z0, fX11_doRouter N 0 b z = fX11_doRouter_39 N 0 b b (some b) z0 ∧ zTnC b z z0 ∧ zRcl z0 b s ∧ zgI z0 9 11 b = zgI z0 11 6 0 ∧ (zgI z0 9 10 b = 0 → bLs (rB s) b = some (rDr T E tl b (fks (rH s)))) ∧ (zgI z0 0 9 b = 0 → ∀ n, n < 24 → V b n = wI (cWay T E tl b (rB s) n)) := by
  obtain ⟨k1, k9, k0⟩ := hT.2.2.1.1 b hb hr
  unfold fX11_doRouter
  rw [k1, zl_e, zd_e, k9, zl_e]
  by_cases c : zgI z 9 11 b = zgI z 11 6 0
  · rw [if_pos c]
    exact ⟨z, rfl, zTnC_rf b z, hR, c, (hf c).1, (hf c).2⟩
  · rw [if_neg c, zl_e, zl_e, zd_e, zl_e]
    have I : ∀ k j o, zgI (zsI (zsI (zsI z 9 11 b (zgI z 11 6 0)) 9 10 b 1) 0 9 b 1) k j o = if k = 0 ∧ j = 9 ∧ o = b then 1 else if k = 9 ∧ j = 10 ∧ o = b then 1 else if k = 9 ∧ j = 11 ∧ o = b then zgI z 11 6 0 else zgI z k j o := fun k j o => by
      rw [zgI_sI, zgI_sI, zgI_sI]
    refine ⟨_, rfl, ⟨fun k j o n => ?_, zKr_tr (zKr_I (Or.inl rfl)) (zKr_tr (zKr_I (Or.inl rfl)) (zKr_I (Or.inr rfl)))⟩, ?_, ?_, fun y => ?_, fun y => ?_⟩
    · rw [I, if_neg (by omega), if_neg (by omega), if_neg (by omega)]
    · exact zRcl_cg (fun j hj => by rw [I, if_neg (by omega), if_neg (by omega), if_neg (by omega)]) (fun j hj => by rw [I, if_neg (by omega), if_neg (by omega), if_neg (by omega)]) (fun _ _ _ _ => rfl) hR
    · rw [I, I, if_neg (by omega), if_neg (by omega), if_pos ⟨rfl, rfl, rfl⟩, if_neg (by omega), if_neg (by omega), if_neg (by omega)]
    · rw [I, if_neg (by omega), if_pos ⟨rfl, rfl, rfl⟩] at y; exact absurd y zi10
    · rw [I, if_pos ⟨rfl, rfl, rfl⟩] at y; exact absurd y zi10
theorem zp_turn1 {z w : St} {T : Tp} {E : Ev} {g : Sg} {V : Wyt} {R : Rg} {mk : Nat → Nat} {K : Int32 → Int32 → Int32 → Prop} {TS TB : List Nat} {tl Nm : Nat → Nat} {b N : Nat} {s : Rs} (hp : zIp z w T E g g V R mk K [] [] TS (zTA w T) TB) (hE4 : eN E ≤ 400000) (hb : b < tb T) (hr : tr T b = true) (hTT : TS.length + TB.length ≤ 4000) (hlC : zTlC z T tl) (hlM : zTlM w T tl) (hX : zRx z w T E tl Nm V b s) (hNm : Nm b + 1 ≤ 16000000) (hN : 77 < N) :
    ∃ z' w' s', fX11_doRouter N 0 b z = (if ¬ ((zgI z' 11 4 0) - (zgI z' 11 4 0) / (20 : Int32) * (20 : Int32)) = 0 then (fX11_doRouter_123 N 0 b b (some b) z') else (zc (fX11_sendGreetings N 0 b z') fun _ z8 => fX11_doRouter_123 N 0 b b (some b) z8)) ∧ (∀ K : St → Option (Int32 × St), (zc (fX19_neighbours N b (zgI w 19 24 0) w) fun _ z4 => zc (fX19_base N 0 b z4) fun _ z8 => zc (fX19_ownAdvert N 0 b z8) fun _ z12 => K z12) = K w') ∧
      zIp z' w' T E g g V R mk K [] [] TS (zTA w' T) TB ∧ zRp z' w' T E b s' ∧ (zOw b s' ∧ eN E < rm s' + 2000 ∧ ro s' ≤ Nm b + 1 ∧ rh s' ≤ Nm b + 1) ∧ zBq T E (zupd Nm b (Nm b + 1)) (rB s') ∧ zOa T b (bE (rB s') b) ∧ (∀ e, e ∈ rT s' → 1 ≤ e.2.2) ∧ (zTlC z' T tl ∧ zTlM w' T tl ∧ zgI z' 9 11 b = zgI z' 11 6 0) ∧ (∀ j, j < tp T b → zgI w' 18 5 (tq T b j) = zbi (eU E (tq T b j / 8))) ∧ zFl z' w' T E tl V b s' ∧ zTnC b z z' ∧ zOtM T b w w' := by
  obtain ⟨hR, ⟨hOw, hag, hro, hrh⟩, ⟨hBq, hOa⟩, hth, -, ⟨hfC, E', hE1, hE2, hE3⟩, h01⟩ := hX
  have hc := hp.1.1.2.1
  have hT := hp.1.1.1
  have b16 : b < 16 := Nat.lt_of_lt_of_le hb hc.1
  have hE := hp.1.1.2.2.1
  have hW := hp.1.2.2.2.1.2.2.1
  have hEp : 1 ≤ eN E := hp.1.2.2.1.2.2.2
  have hnow : zgI w 19 24 0 = Int32.ofNat (eN E) := hp.1.2.1.2.2.1.1
  have htl : ∀ p, tv T p → 1 ≤ tl p ∧ tl p ≤ 1000 := fun p hv => (hlC p hv).2
  -- the world
  obtain ⟨z0, q0, c0, r0, v0, f0, y0⟩ := zc_seen (N := N) hT hb hr hR.1 hfC
  have hp0 := zIp_tnC c0 hp
  have hR0 : zRp z0 w T E b s := ⟨r0, hR.2⟩
  -- silent ones
  obtain ⟨z1, w1, a1, a2, a3, a4, ⟨a5, a6, a7, a8, a9⟩, ⟨m5, m6, m7, m8, m9, m10, m11, m12⟩⟩ := zp_forget (N := N) hp0.1.1.1 hp0.1.1.2.2.1 hE4 hb hr hp0.1.2.1 hR0 h01 (by omega)
  have c1 : zTnC b z0 z1 := ⟨fun k j o n => a5 k j o (by omega), a9⟩
  have fm1 : zFr mX19_neighbours w w1 := wX19_neighbours (Nat.and_self _) (zFr_rf _ _) _ _ a2
  have hp1 := zIp_tnM fm1 chk1.2.2.1 chk1.2.2.2.1 chk1.2.2.2.2 a4 (zIp_tnC c1 hp0)
  obtain ⟨s1, hs1⟩ : ∃ u, u = (hSil T E b (rH s), s.2) := ⟨_, rfl⟩
  have eB1 : rB s1 = rB s := by rw [hs1]; rfl
  have eT1 : rT s1 = rT s := by rw [hs1]; rfl
  have e21 : s1.2 = s.2 := by rw [hs1]
  have eH1 : rH s1 = hSil T E b (rH s) := by rw [hs1]; rfl
  rw [← hs1] at a3
  have pw0 := hR.2.2.1.1.1.2.1
  have pw1 := a3.2.2.1.1.1.2.1
  have fk1 : (∀ key, fn (hSil T E b (rH s)) key = fn (rH s) key) → fks (rH s1) = fks (rH s) := fun h => by rw [eH1] at pw1 ⊢; exact fks_cg pw0 pw1 h
  have fl1 : zFl z1 w1 T E tl V b s1 := by
    refine ⟨fun y => ?_, fun y => ?_, fun y => ?_, fun y => ?_, ?_⟩
    · rcases a7 with q | q
      · rcases a6 with q2 | q2
        · rw [eB1, fk1 q]; exact f0 (q2.symm.trans y)
        · rw [q2] at y; exact absurd y zi10
      · rw [q] at y; exact absurd y zi10
    · rw [eB1]; exact y0 ((a5 0 9 b (by omega)).symm.trans y)
    · rcases m11 with ⟨q, q1, q2⟩ | q
      · have := hE2 (q.symm.trans y)
        rw [rDr_cg (seen_cg hc hb hE1 q1)] at this
        rw [eB1, fk1 q2]; exact this
      · rw [q] at y; exact absurd y zi10
    · rcases m12 with ⟨q, q1⟩ | q
      · intro n hn
        have := hE3 (q.symm.trans y) n hn
        rw [cWay_cg (seen_cg hc hb hE1 q1)] at this
        rw [eB1]; exact this
      · rw [q] at y; exact absurd y zi10
    · rcases m12 with ⟨q, -⟩ | q
      · rw [q]; exact h01
      · exact Or.inr q
  have hup1 := hSil_up (T := T) (E := E) (b := b) (H := rH s) (fun n hn => (hR.2.2.1.2.1 n hn).1)
  rw [← eH1] at hup1
  -- old ones
  have hold1 : ∀ r a, rB s1 r = some a → a.2.1 ≤ eN E := fun r a h => by rw [eB1] at h; exact (hBq r a h).1
  obtain ⟨z2, w2, b1, b2, b3, b4, b5, ⟨b6, b7, b8⟩, ⟨n6, n7, n8, n9⟩⟩ := zp_expire (N := N) hp1.1.1.2.2.1.1 hE4 hb hr hp1.1.2.1 a3 hold1 (by omega)
  have c2 : zTnC b z1 z2 := ⟨fun k j o n => b6 k j o (by omega) (by omega), b8⟩
  have fm2 : zFr mX19_base w1 w2 := wX19_base (Nat.and_self _) (zFr_rf _ _) _ _ b2
  have hp2 := zIp_tnM fm2 chk1.2.1.1 chk1.2.1.2.1 chk1.2.1.2.2 b4 (zIp_tnC c2 hp1)
  obtain ⟨x1, x2, x3, x4, x5, x6⟩ := rExs_keep (eN E) 16 0 s1
  obtain ⟨s2, hs2⟩ : ∃ u, u = rExs (eN E) 0 16 s1 := ⟨_, rfl⟩
  rw [← hs2] at b3 b7 n7 x1 x2 x3 x4 x5 x6
  have e22 : s2.2.2.2 = s.2.2.2 := by rw [x2, e21]
  have erm : rm s2 = rm s := congrArg Prod.fst e22
  have ero : ro s2 = ro s := congrArg (fun x => x.2.1) e22
  have erh : rh s2 = rh s := congrArg (fun x => x.2.2) e22
  have ownB : rB s2 b = rB s b := by
    rw [← eB1]
    cases q : rB s1 b with
    | none =>
      rcases x4 b with y | y
      · rw [y, q]
      · exact y
    | some a =>
      refine x5 b a q ?_
      rw [eB1] at q
      rcases hOw with ⟨-, o2⟩ | ⟨o1, L, o2, -⟩
      · rw [o2] at q; cases q
      · rw [o2] at q
        have := Option.some.inj q
        have := hag (by omega)
        have : a.2.1 = rm s := by rw [← Option.some.inj q]
        omega
  have bls2 : bLs (rB s2) b = bLs (rB s1) b := by unfold bLs; rw [ownB, eB1]
  have be2 : bE (rB s2) b = bE (rB s) b := by unfold bE; rw [ownB]
  have fk2 : fks (rH s2) = fks (rH s1) := fks_cg pw1 b3.2.2.1.1.1.2.1 x3
  have Ow2 : zOw b s2 := by
    have := hOw
    unfold zOw at this ⊢
    rw [ero, erm, ownB]; exact this
  have fl2 : zFl z2 w2 T E tl V b s2 := by
    obtain ⟨l1, l2, l3, l4, l5⟩ := fl1
    refine ⟨fun y => ?_, fun y => ?_, fun y => ?_, fun y => ?_, ?_⟩
    · rw [bls2, fk2]; exact l1 ((b6 9 10 b (by omega) (by omega)).symm.trans y)
    · rcases b7 with ⟨q1, q2⟩ | q
      · rw [q2]; exact l2 (q1.symm.trans y)
      · rw [q] at y; exact absurd y zi10
    · rw [bls2, fk2]; exact l3 ((n6 12 24 b (by omega) (by omega)).symm.trans y)
    · rcases n7 with ⟨q1, q2⟩ | q
      · rw [q2]; exact l4 (q1.symm.trans y)
      · rw [q] at y; exact absurd y zi10
    · rcases n7 with ⟨q, -⟩ | q
      · rw [q]; exact l5
      · exact Or.inr q
  have hup2 : zHup T E b (rH s2) := fun n hn => by
    obtain ⟨m, h1, h2⟩ := x6 n hn
    rw [h2]; exact hup1 m h1
  have Bq2 : zBq T E Nm (rB s2) := fun r a h => by
    rcases x4 r with y | y
    · rw [y, eB1] at h; exact hBq r a h
    · rw [y] at h; cases h
  have p18_2 : ∀ j, j < tp T b → zgI w2 18 5 (tq T b j) = zbi (eU E (tq T b j / 8)) := fun j hj => by rw [n6 18 5 _ (by omega) (by omega)]; exact m10 j hj
  -- its own advert
  have c02 := zTnC_tr c0 (zTnC_tr c1 c2)
  have lC2 := zTnC_l c02 hlC
  have lM2 : zTlM w2 T tl := fun p hv => by
    rw [n6 18 4 p (by omega) (by omega), m5 18 4 p (by omega) (by omega)]; exact hlM p hv
  obtain ⟨z3, w3, s3, hs3, d1, d2, d3, d4, d5, d6, d7, ⟨d8, d9⟩, ⟨d10, d11, d12⟩, ⟨o1, o2, o3, o4, o5⟩⟩ := zp_own (N := N) (X := []) hp2.1.1.1 hp2.1.1.2.2.1 hEp hE4 hb hr hp2.1.2.1 (by simp) hW hTT lC2 lM2 b3 Ow2 (by rw [ero, erh]; have : max (ro s) (rh s) ≤ Nm b := Nat.max_le.mpr ⟨hro, hrh⟩; omega) p18_2 hup2 fl2.1 fl2.2.2.1 hN
  have c3 : zTnC b z2 z3 := ⟨fun k j o n => d10 k j o (by omega) (by omega), d12⟩
  have fm3 : zFr mX19_ownAdvert w2 w3 := wX19_ownAdvert (Nat.and_self _) (zFr_rf _ _) _ _ d2
  have hp3 := zIp_tnM fm3 chk1.1.1 chk1.1.2.1 chk1.1.2.2 d4 (zIp_tnC c3 hp2)
  have c03 := zTnC_tr c02 c3
  have mx : max (ro s2) (rh s2) ≤ Nm b := by rw [ero, erh]; exact Nat.max_le.mpr ⟨hro, hrh⟩
  have kOk : ∀ x, x ∈ fks (rH s2) → zKok T b x := fks_ok (fun n hn => by
    obtain ⟨h1, h2, h3, h4, h5, -⟩ := b3.2.2.1.2.1 n hn
    exact ⟨h1, h2, h3, h4, h5⟩)
  have hOaD := rDr_oa (E := E) (tl := tl) hc hb (fks_pw b3.2.2.1.1.1.2.1) kOk
  have hEnD := (rDr_en (E := E) (tl := tl) (H := rH s2) hc hb htl b3.2.2.1.1.1.2.1 b3.2.2.1.1.1.2.2).1
  have NmUp : ∀ r, Nm r ≤ zupd Nm b (Nm b + 1) r := fun r => by
    by_cases e : r = b
    · rw [e, zupd_s]; omega
    · rw [zupd_n e]; exact Nat.le_refl _
  have om1 : zOtM T b w w1 := fun c hcb hc1 hrc => by
    have ne : ∀ j, j < tp T c → ∀ i, i < tp T b → tq T c j ≠ tq T b i := fun j hj i hi y => by
      have h1 := (hc.2.2.2.2.2.2.1 c j hc1 hj).2.1
      have h2 := (hc.2.2.2.2.2.2.1 b i hb hi).2.1
      rw [y, h2] at h1
      exact hcb h1.symm
    refine ⟨fun s hR => zRml_eq (fun j => m5 12 j c (by omega) (by omega)) (fun x j _ _ => m5 15 j x (by omega) (by omega)) (fun k o i _ => m6 k o i) (fun i => m8 149 c i (by omega)) hR, m5 12 23 c (by omega) (by omega), m5 12 24 c (by omega) (by omega), fun j hj => m5 18 5 _ (by omega) (fun y => ?_)⟩
    obtain ⟨-, -, i, i1, i2⟩ := y
    exact ne j hj i i1 i2
  have om2 : zOtM T b w1 w2 := zOtM_mr hc n9 (fun x _ _ k _ => n8 178 0 _ (by omega) (by omega) (by omega) (by omega))
  have om3 : zOtM T b w2 w3 := zOtM_mr hc o5 o4
  have cases3 := rOwn_c (eN E) b (rDr T E tl b (fks (rH s2))) s2
  rw [← hs3] at cases3
  have age3 := rOwn_age (eN E) b (rDr T E tl b (fks (rH s2))) s2
  rw [← hs3] at age3
  refine ⟨z3, w3, s3, ?_, fun K => ?_, hp3, d3, ⟨d5, age3.2, ?_, ?_⟩, ?_, ?_, ?_, ⟨zTnC_l c03 hlC, fun p hv => by rw [o1 18 4 p (by omega) (by omega)]; exact lM2 p hv, ?_⟩, fun j hj => by rw [o1 18 5 _ (by omega) (by omega)]; exact p18_2 j hj, ⟨d8, fun y => ?_, d9, fun y => ?_, ?_⟩, c03, zOtM_tr om1 (zOtM_tr om2 om3)⟩
  · rw [q0]
    unfold fX11_doRouter_39
    rw [a1, zc_e, b1]
    unfold fX11_doRouter_47b
    rw [if_pos (by decide), d1, zc_e]
  · rw [hnow, a2, zc_e, b2, zc_e, d2, zc_e]
  · rcases cases3 with e | e
    · rw [e]; have := Nat.le_trans (Nat.le_max_left (ro s2) (rh s2)) mx; omega
    · rw [e]; show max (ro s2) (rh s2) + 1 ≤ _; omega
  · rcases cases3 with e | e
    · rw [e]; have := Nat.le_trans (Nat.le_max_right (ro s2) (rh s2)) mx; omega
    · rw [e]; show rh s2 ≤ _; have := Nat.le_trans (Nat.le_max_right (ro s2) (rh s2)) mx; omega
  · intro r a h
    rcases cases3 with e | e
    · rw [e] at h
      obtain ⟨g1, g2, g3⟩ := Bq2 r a h
      exact ⟨g1, g2, Qg_up NmUp _ _ _ g3⟩
    · rw [e] at h
      have h : bSet (rB s2) b (some (max (ro s2) (rh s2) + 1, eN E, rDr T E tl b (fks (rH s2)))) r = some a := h
      unfold bSet at h
      by_cases q : r = b
      · rw [if_pos q] at h
        have := Option.some.inj h
        rw [← this, q]
        exact ⟨Nat.le_refl _, hEnD, by rw [zupd_s]; show max (ro s2) (rh s2) + 1 ≤ _; omega, hOaD.2⟩
      · rw [if_neg q] at h
        obtain ⟨g1, g2, g3⟩ := Bq2 r a h
        exact ⟨g1, g2, Qg_up NmUp _ _ _ g3⟩
  · rcases cases3 with e | e
    · rw [e, be2]; exact hOa
    · rw [e]
      have : bE (rB (rMak (eN E) b (rDr T E tl b (fks (rH s2))) s2)) b = rDr T E tl b (fks (rH s2)) := by
        show bE (bSet (rB s2) b (some (max (ro s2) (rh s2) + 1, eN E, rDr T E tl b (fks (rH s2))))) b = _
        unfold bE bSet
        rw [if_pos rfl]
      rw [this]; exact hOaD.1
  · intro e he
    have : rT s3 = rT s2 := by
      rcases cases3 with q | q
      · rw [q]
      · rw [q]; rfl
    rw [this, x1, eT1] at he
    exact hth e he
  · rw [c3.1 11 6 0 (by omega), c2.1 11 6 0 (by omega), c1.1 11 6 0 (by omega), d10 9 11 b (by omega) (by omega), b6 9 11 b (by omega) (by omega), a5 9 11 b (by omega)]; exact v0
  · rcases d11 with ⟨q1, q2⟩ | q
    · rw [q2]; exact fl2.2.1 (q1.symm.trans y)
    · rw [q] at y; exact absurd y zi10
  · rcases o2 with ⟨q1, q2⟩ | q
    · rw [q2]; exact fl2.2.2.2.1 (q1.symm.trans y)
    · rw [q] at y; exact absurd y zi10
  · rcases o2 with ⟨q, -⟩ | q
    · rw [q]; exact fl2.2.2.2.2
    · exact Or.inr q
