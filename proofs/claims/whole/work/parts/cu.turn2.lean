/-! a router's turn, whole -/
theorem zHs_pw {H H' : List Nb} (h : zHs H H') : fks H' = fks H := by
  unfold zHs at h
  unfold fks
  have e : ∀ L : List Nb, (L.filter (fun n => n.2.2.1)).map (fun n => n.1) = ((L.map (fun n => (n.1, n.2.1, n.2.2.1))).filter (fun m => m.2.2)).map (fun m => m.1) := fun L => by
    induction L with
    | nil => rfl
    | cons a L ih =>
      rw [List.map_cons, List.filter_cons, List.filter_cons]
      by_cases c : a.2.2.1 = true
      · rw [if_pos c, if_pos (show (a.1, a.2.1, a.2.2.1).2.2 = true from c), List.map_cons, List.map_cons, ih]
      · rw [if_neg c, if_neg (show ¬ (a.1, a.2.1, a.2.2.1).2.2 = true from c), ih]
  rw [e, e, h]
theorem zp_turn {z w : St} {T : Tp} {E : Ev} {g : Sg} {V : Wyt} {R : Rg} {mk : Nat → Nat} {K : Int32 → Int32 → Int32 → Prop} {TS TB : List Nat} {tl Nm : Nat → Nat} {b N : Nat} {s : Rs} (hp : zIp z w T E g g V R mk K [] [] TS (zTA w T) TB) (hok : zRok (Qg T Nm) T R) (hm : mk b + 400 < 2147483646) (hE4 : eN E ≤ 400000) (hb : b < tb T) (hr : tr T b = true) (hTT : TS.length + TB.length ≤ 4000) (hlC : zTlC z T tl) (hlM : zTlM w T tl) (hX : zRx z w T E tl Nm V b s) (hNm : Nm b + 1 ≤ 16000000) (hN : 1481 < N) :
    ∃ z' w' g' V' R' mk' s', fX11_doRouter N 0 b z = some (0, z') ∧ (∀ K : St → Option (Int32 × St), (zc (fX19_neighbours N b (zgI w 19 24 0) w) fun _ z4 => zc (fX19_base N 0 b z4) fun _ z8 => zc (fX19_ownAdvert N 0 b z8) fun _ z12 => zc (fX19_routerSpeaks N 0 b z12) fun _ z16 => zc (fX19_ways N 0 b z16) fun _ z20 => K z20) = K w') ∧
      zIp z' w' T E g' g' V' R' mk' K [] [] TS (zTA w' T) TB ∧ zRok (Qg T (zupd Nm b (Nm b + 1))) T R' ∧ (∀ c n v, R c n = some v → R' c n = some v) ∧ zRch T E b (PDr (Qg T (zupd Nm b (Nm b + 1))) T) g g' ∧ (∀ c, mk c ≤ mk' c ∧ mk' c ≤ mk c + (if c = b then 326 else 0)) ∧ zRx z' w' T E tl (zupd Nm b (Nm b + 1)) V' b s' ∧ (eN E < rm s' + 2000 ∧ zgI z' 9 11 b = zgI z' 11 6 0) ∧ (zTlC z' T tl ∧ zTlM w' T tl) ∧ (∀ c n, c ≠ b → V' c n = V c n) ∧ zOtC b z z' ∧ zOtM T b w w' ∧ (∀ u, 515 ≤ u → u < 579 → (∀ j, zgI z' 7 j u = zgI z 7 j u) ∧ ∀ i, zgA z' 125 u i = zgA z 125 u i) ∧ ∀ j, j < tp T b → zgI w' 18 5 (tq T b j) = zbi (eU E (tq T b j / 8)) := by
  have hc := hp.1.1.2.1
  have hV0 := hX.2.2.2.2.1
  obtain ⟨z1, w1, s1, a1, a2, a3, a4, ⟨a5, a6, a7, a8⟩, a9, a10, a11, ⟨a12, a13, a14⟩, a15, ⟨f1, f2, f3, f4, f5⟩, a16, a17⟩ := zp_turn1 (N := N) hp hE4 hb hr hTT hlC hlM hX hNm (by omega)
  have NmUp : ∀ r, Nm r ≤ zupd Nm b (Nm b + 1) r := fun r => by
    by_cases e : r = b
    · rw [e, zupd_s]; omega
    · rw [zupd_n e]; exact Nat.le_refl _
  have hok1 := zRok_q (Qg_up (T := T) NmUp) hok
  obtain ⟨z2, w2, g2, R2, mk2, s2, b1, b2, b3, b4, b5, b6, b7, b8, b9, b10, b11, b12, b13⟩ := zp_speak (N := N) a3 hok1 hm hE4 hb hr a4 (fun r a h => ⟨(a9 r a h).2.1, (a9 r a h).2.2⟩) a11 a15 hN
  have eB : rB s2 = rB s1 := congrArg Prod.fst b10
  have em : rm s2 = rm s1 := congrArg (fun x => x.2.1) b10
  have eo : ro s2 = ro s1 := congrArg (fun x => x.2.2.1) b10
  have eh : rh s2 = rh s1 := congrArg (fun x => x.2.2.2) b10
  have fk : fks (rH s2) = fks (rH s1) := zHs_pw b11
  have lC2 : zTlC z2 T tl := fun p hv => ⟨(b12.1 8 5 p (by omega) (by omega) (by omega)).trans (a12 p hv).1, (a12 p hv).2⟩
  have lM2 : zTlM w2 T tl := fun p hv => ⟨(b13.2.2.2 4 p (Or.inl rfl)).trans (a13 p hv).1, (a13 p hv).2⟩
  have up2 : ∀ j, j < tp T b → zgI w2 18 5 (tq T b j) = zbi (eU E (tq T b j / 8)) := fun j hj => (b13.2.2.2 5 _ (Or.inr rfl)).trans (a15 j hj)
  have I910 : zgI z2 9 10 b = zgI z1 9 10 b := b12.1 9 10 b (by omega) (by omega) (by omega)
  have I09 : zgI z2 0 9 b = zgI z1 0 9 b := b12.1 0 9 b (by omega) (by omega) (by omega)
  have J24 : zgI w2 12 24 b = zgI w1 12 24 b := b13.1 12 24 b (by omega) (by omega) (by omega) (by omega)
  have J23 : zgI w2 12 23 b = zgI w1 12 23 b := b13.1 12 23 b (by omega) (by omega) (by omega) (by omega)
  obtain ⟨z3, w3, V3, c1, c2, c3, c4, ⟨c5, c6⟩, c7, c8, ⟨c9, c10, c11⟩, ⟨c12, c13, c14, c15⟩⟩ := zp_ways (N := N) b3 hb hr b8 lC2 lM2 (by rw [eB]; exact zBq_t a9) (by rw [eB]; exact a10) up2 hV0 (fun y => by rw [eB]; exact f2 (I09.symm.trans y)) (fun y => by rw [eB]; exact f4 (J23.symm.trans y)) (by rw [J23]; exact f5) (by omega)
  have hV3 : ∀ n, tn T ≤ n → n < 24 → V3 b n = (-1, -1, -1) := fun n h1 h2 => by
    rw [c7 n h2, cWay_none hc hb (by rw [eB]; exact zBq_t a9) h1]; rfl
  have oc3 : zOtC b z2 z3 := fun c hcb => ⟨fun s hR => zRcl_cg (fun j _ => c9 9 j c (by omega)) (fun j hj => c9 0 j c (by omega)) (fun k o i h => c10 k o i (by omega)) hR, c9 9 10 c (by omega), c9 9 11 c (by omega), c9 0 9 c (by omega), c9 11 6 0 (by omega)⟩
  have om3 : zOtM T b w2 w3 := fun c hcb _ _ => ⟨fun s hR => zRml_eq (fun j => c12 12 j c (by omega)) (fun x j _ _ => c12 15 j x (by omega)) (fun k o i _ => c13 k o i (by omega) (by omega)) (fun i => c14 149 c i) hR, c12 12 23 c (by omega), c12 12 24 c (by omega), fun j _ => c12 18 5 _ (by omega)⟩
  refine ⟨z3, w3, g2, V3, R2, mk2, s2, ?_, fun K => ?_, c3, b4, b5, b6, b7, ⟨c4, ⟨?_, fun _ => ?_, ?_, ?_⟩, ⟨by rw [eB]; exact a9, by rw [eB]; exact a10⟩, fun e he => ?_, hV3, ⟨fun _ => ⟨fun y => ?_, fun _ => c7⟩, E, fun j hj => ?_, fun y => ?_, fun _ => c7⟩, Or.inl c6⟩, ⟨by rw [em]; exact a6, ?_⟩, ⟨fun p hv => ⟨(c9 8 5 p (by omega)).trans (lC2 p hv).1, (lC2 p hv).2⟩, fun p hv => ⟨(c12 18 4 p (by omega)).trans (lM2 p hv).1, (lM2 p hv).2⟩⟩, c8, zOtC_tr (zOtC_tn a16) (zOtC_tr (zOtC_fx b12) oc3), zOtM_tr a17 (zOtM_tr (zOtM_fx b13) om3), fun u h1 h2 => ⟨fun j => (c9 7 j u (by omega)).trans (((b12.2.2 u h1 h2).1 j).trans (a16.1 7 j u (by omega))), fun i => (c10 125 u i (by omega)).trans (((b12.2.2 u h1 h2).2 i).trans (a16.2.2.1 125 u i (by omega) (by omega) (by omega)))⟩, fun j hj => (c12 18 5 _ (by omega)).trans (up2 j hj)⟩
  · rw [a1, b1]; exact c1
  · have := a2 (fun z12 => zc (fX19_routerSpeaks N 0 b z12) fun _ z16 => zc (fX19_ways N 0 b z16) fun _ z20 => K z20)
    rw [this, b2, zc_e, c2, zc_e]
  · unfold zOw at a5 ⊢
    rw [eo, em, eB]; exact a5
  · rw [em]; omega
  · rw [eo, zupd_s]; exact a7
  · rw [eh, zupd_s]; exact a8
  · rw [b9] at he; cases he
  · rw [eB, fk]; exact f1 (I910.symm.trans ((c9 9 10 b (by omega)).symm.trans y))
  · rw [c12 18 5 _ (by omega)]; exact up2 j hj
  · rw [eB, fk]; exact f3 (J24.symm.trans ((c12 12 24 b (by omega)).symm.trans y))
  · rw [c9 9 11 b (by omega), c9 11 6 0 (by omega), b12.1 9 11 b (by omega) (by omega) (by omega), b12.1 11 6 0 (by omega) (by omega) (by omega)]; exact a14
