/-! a segment that nobody knows is answered by a reset: both sides -/
/-- the model's side anew -/
theorem zIp_mG {M : Nat} {z w w' : St} {T : Tp} {E : Ev} {gc gm : Sg} {V : Wyt} {R : Rg} {mk : Nat → Nat} {K K' : Int32 → Int32 → Int32 → Prop} {X XM XM' TS TS' TA TA' TB TB' : List Nat} (f : zFr M w w') (hm2 : 0x38000000000000000000000000000000000000000000000000000000000000000000000000000000000000000000000000000000000000000000000000000000000000000000000000000000000000000000000000000000000000000000000000000000000000000000000000000000000000000000000000000000000000000000000000000000000000000000000000000000000000000000000000000000000000000000000 &&& M = 0) (hm3 : mREm &&& M = 0) (hm4 : 0x370000000000000000000000000000000000000000000000000000000000000000000000000000000000000000000000000000000000000000000000000000000000000000000000000000000000000000000000000000000000000000000000000 &&& M = 0) (hV : zMV w' T E gm K' XM' TS' TA' TB') (hp : zIp z w T E gc gm V R mk K X XM TS TA TB) : zIp z w' T E gc gm V R mk K' X XM' TS' TA' TB' := by
  obtain ⟨⟨p1, p2, p3, p4, ⟨p5, p6, p7⟩, p8, p9, p10⟩, hR, hW⟩ := hp
  exact ⟨⟨p1, hV, p3, p4, ⟨p5, zWym_fr f hm2 p6, p7⟩, zRE_fr (zFr_rf 0 z) (by decide) f hm3 p8, zUt_keepM f hm4 p9, p10⟩, hR, hW⟩
/-- what answers a stranger -/
def vRst (V : Sv) : Sv := (if vgK V 8 = true then 4 else 12, if vgK V 8 = true then vgT V else 0, if vgK V 8 = true then 0 else vgN V + Int32.ofNat (vSz V), 0, 0, 0, fun _ => 0)
theorem vRst_f (V : Sv) : vgF (vRst V) = 4 ∨ vgF (vRst V) = 12 := by
  unfold vRst vgF
  split
  · exact Or.inl rfl
  · exact Or.inr rfl
theorem vRst_1 (V : Sv) : vgK (vRst V) 1 = false := by
  unfold vgK
  rcases vRst_f V with y | y <;> rw [y] <;> decide
theorem zsI_undo (z : St) (k j o : Nat) (v : Int32) : zsI (zsI z k j o v) k j o (zgI z k j o) = z := by
  have : zsI (zsI z k j o v) k j o (zgI z k j o) = zsI z k j o (zgI z k j o) := by
    unfold zsI zup
    refine Prod.ext ?_ rfl
    funext a b c
    show (if a = k ∧ b = j ∧ c = o then zgI z k j o else if a = k ∧ b = j ∧ c = o then v else z.1 a b c) = if a = k ∧ b = j ∧ c = o then zgI z k j o else z.1 a b c
    split <;> rfl
  rw [this, zsI_id]
theorem zc_stranger {z : St} {T : Tp} {q x b N : Nat} {V : Sv} (hT : zTC z T) (hq : tv T q) (hb : tw T q = b) (hx : x ≠ 0) (hV : zSgC z x V) (hN : 4 < N) (h15 : zgI z 11 15 0 = 0) (ho : g2 (zgA z 125 x) 2 &&& (65535 : Int32) = g2 (zgA z 125 x) 2) (ho2 : g2 (zgA z 125 x) 0 &&& (65535 : Int32) = g2 (zgA z 125 x) 0) :
    (vgK V 4 = true → fX11_resetStranger N 0 q x z = some (0, z)) ∧ (vgK V 4 = false → ∃ z1, fX11_resetStranger N 0 q x z = some (0, zsI z1 11 15 0 1) ∧ zMdC z1 (vRst V) ∧ zKd b z z1 ∧ zgA z1 113 b 2 = zgA z 113 b 2 + 1 ∧ (zgI z1 7 0 0 = zad q ∧ zgI z1 7 1 0 = zgI z 7 0 x ∧ zgI z1 7 3 0 = zgA z 113 b 2) ∧ g2 (zgA z1 125 0) 0 = g2 (zgA z 125 x) 2 ∧ g2 (zgA z1 125 0) 2 = g2 (zgA z 125 x) 0) := by
  obtain ⟨q0, -, -, -, q4⟩ := hT.2.2.2 q hq
  rw [hb] at q0
  have e13 : zgR z 11 13 0 = some 0 := hT.1.2.2.1
  refine ⟨fun c => ?_, fun c => ?_⟩
  · unfold fX11_resetStranger
    rw [zc_hasf 4 hV, zc_e, c, if_neg (show ¬ zbi true = 0 by decide)]
  · obtain ⟨zM, a1, a2, a3, a4⟩ := zc_beginSeg (z := z) (b := b) (N := N) (fl := if vgK V 8 = true then 4 else 12) (nu := if vgK V 8 = true then vgT V else 0) (th := if vgK V 8 = true then 0 else vgN V + Int32.ofNat (vSz V)) (wi := 0) hN (by split <;> decide) (by decide) (fun _ => 0)
    have x125 : ∀ u : St, (∀ i, zgA u 125 x i = zgA z 125 x i) → ∀ i, i + 2 ≤ 1480 → fX7_get2 N x (Int32.ofNat i) u = some (g2 (zgA z 125 x) i, u) := fun u hu i hi => by
      rw [zc_get2 hi]
      have : zgA u 125 x = zgA z 125 x := funext hu
      rw [this]
    obtain ⟨z2, hz2⟩ : ∃ y, y = zsI (zsI zM 7 0 0 (zad q)) 7 1 0 (zgI z 7 0 x) := ⟨_, rfl⟩
    obtain ⟨z3, hz3⟩ : ∃ y, y = zsC z2 125 0 (p2 (zgA z2 125 0) 0 (g2 (zgA z 125 x) 2)) := ⟨_, rfl⟩
    obtain ⟨z4, hz4⟩ : ∃ y, y = zsC z3 125 0 (p2 (zgA z3 125 0) 2 (g2 (zgA z 125 x) 0)) := ⟨_, rfl⟩
    obtain ⟨z5, hz5⟩ : ∃ y, y = zsI (zsA z4 113 b 2 (zgA z4 113 b 2 + 1)) 7 3 0 (zgA z4 113 b 2) := ⟨_, rfl⟩
    have kd2 : zKd b zM z2 := by rw [hz2]; exact zKd_tr (zKd_I (by omega)) (zKd_I (by omega))
    have kd3 : zKd b z2 z3 := by rw [hz3]; exact zKd_C
    have kd4 : zKd b z3 z4 := by rw [hz4]; exact zKd_C
    have kd5 : zKd b z4 z5 := by rw [hz5]; exact zKd_tr zKd_N (zKd_I (by omega))
    have t1 : zKd b z z3 := zKd_tr a3 (zKd_tr kd2 kd3)
    have t4 : zKd b z z4 := zKd_tr t1 kd4
    have ax : ∀ {u : St}, zKd b z u → ∀ i, zgA u 125 x i = zgA z 125 x i := fun k i => k.2.1 125 x i (by omega) (by omega)
    have A113 : zgA z4 113 b 2 = zgA z 113 b 2 := by
      rw [hz4, zgA_sC, if_neg (by omega), hz3, zgA_sC, if_neg (by omega), hz2]
      exact a4 113 b 2 (by omega)
    have B2 : zgA z2 125 0 = zgA zM 125 0 := by rw [hz2]; rfl
    have B4 : zgA z5 125 0 = p2 (p2 (zgA zM 125 0) 0 (g2 (zgA z 125 x) 2)) 2 (g2 (zgA z 125 x) 0) := by
      rw [hz5, ← B2]
      show zgA (zsA z4 113 b 2 _) 125 0 = _
      have : zgA (zsA z4 113 b 2 (zgA z4 113 b 2 + 1)) 125 0 = zgA z4 125 0 := congrFun (zA_n (by omega)) 0
      rw [this, hz4, zgA_sCs, hz3, zgA_sCs]
    have J5 : ∀ j, ¬ (j = 0 ∨ j = 1 ∨ j = 3) → zgI z5 7 j 0 = zgI zM 7 j 0 := fun j hj => by
      rw [hz5, zgI_sI, if_neg (by omega)]
      show zgI z4 7 j 0 = _
      rw [hz4]
      show zgI z3 7 j 0 = _
      rw [hz3]
      show zgI z2 7 j 0 = _
      rw [hz2, zgI_sI, if_neg (by omega), zgI_sI, if_neg (by omega)]
    refine ⟨z5, ?_, zMdC_cg (fun j hj => J5 j (by omega)) (fun i hi => by rw [B4, p2_at _ _ (by omega), p2_at _ _ (by omega)]) a2, zKd_tr t4 kd5, ?_, ⟨?_, ?_, ?_⟩, ?_, ?_⟩
    · unfold fX11_resetStranger
      have m13 : ∀ {u : St}, zKd b z u → zgR u 11 13 0 = some 0 := fun k => (k.2.2.2.2 11 13 0).trans e13
      rw [zc_hasf 4 hV, zc_e, c, if_pos (show zbi false = 0 from rfl), e13, zl_e, zc_rstF hV, zc_e, zc_rstN hV, zc_e, zc_rstT hV, zc_e, zd_e, a1, zc_e, m13 a3, zl_e, zd_e, a3.1 8 4 q (by omega), q4, zl_e]
      have ia : zKd b z (zsI zM 7 0 0 (zad q)) := zKd_tr a3 (zKd_I (by omega))
      rw [m13 ia, zl_e, zd_e, ia.1 7 0 x (by omega), zl_e, ← hz2]
      have k2 := zKd_tr a3 kd2
      rw [m13 k2, zl_e, show (2 : Int32) = Int32.ofNat 2 from rfl, x125 z2 (ax k2) 2 (by omega), zc_e, zd_e, show (0 : Int32) = Int32.ofNat 0 from rfl, zc_put2 (by omega), ← hz3, zc_e, m13 t1, zl_e, x125 z3 (ax t1) 0 (by omega), zc_e, zd_e, zc_put2 (by omega), ← hz4, zc_e, m13 t4, zl_e, t4.2.2.2.2 8 0 q, q0, zl_e, zd_e, zc_nextNumber, zc_e, zd_e, zl_e, ← hz5, zl_e]
    · rw [hz5]
      show zgA (zsA z4 113 b 2 _) 113 b 2 = _
      rw [zgA_sA, if_pos ⟨rfl, rfl, rfl⟩, A113]
    · rw [hz5, zgI_sI, if_neg (by omega)]
      show zgI z4 7 0 0 = _
      rw [hz4]
      show zgI z3 7 0 0 = _
      rw [hz3]
      show zgI z2 7 0 0 = _
      rw [hz2, zgI_sI, if_neg (by omega), zgI_sI, if_pos ⟨rfl, rfl, rfl⟩]
    · rw [hz5, zgI_sI, if_neg (by omega)]
      show zgI z4 7 1 0 = _
      rw [hz4]
      show zgI z3 7 1 0 = _
      rw [hz3]
      show zgI z2 7 1 0 = _
      rw [hz2, zgI_sI, if_pos ⟨rfl, rfl, rfl⟩]
    · rw [hz5, zgI_sI, if_pos ⟨rfl, rfl, rfl⟩, A113]
    · rw [B4, g2_o2 _ _ (by omega), g2_p2]; exact ho
    · rw [B4, g2_p2]; exact ho2
theorem zSgM_of {w : St} {K : Int32 → Int32 → Int32 → Prop} {s : Nat} {D : Dg} (hs : s < 2400) (hw : dw D ≤ 1480) (hm : zMS w K s D) : zSgM w s (vOf D) := by
  obtain ⟨m0, m1, m2, m3, m4, m5, m6, m7, m8, m9, -⟩ := hm
  exact ⟨hs, ⟨m2, m3, m4, m5, m6, m7⟩, by show dw D - 20 ≤ 1460; omega, fun i hi => m9 i hi⟩
theorem zSgM_md {w : St} {T : Tp} {K : Int32 → Int32 → Int32 → Prop} {d s : Nat} {D : Dg} (h : zMD w T K d D) (h2 : D.1 2 = 1) (h10 : md w d 10 = Int32.ofNat s) (hs : s < 2400) : zSgM w s (vOf D) ∧ zMS w K s D := by
  obtain ⟨s', q1, q2, -, q3⟩ := h.2.2.1 h2
  have : s' = s := by
    rw [h10] at q2
    have := congrArg Int32.toNatClampNeg q2
    rw [zoC (by omega), zoC (by omega)] at this; exact this.symm
  subst this
  exact ⟨zSgM_of q1 h.2.1.2.2.2.2.2 q3, q3⟩
theorem zp_stranger {z w : St} {T : Tp} {E : Ev} {g : Sg} {Wy : Wyt} {R : Rg} {mk : Nat → Nat} {K : Int32 → Int32 → Int32 → Prop} {X XM TS TA TB : List Nat} {b q x s d N : Nat} {D' : Dg} {V : Sv} {own src oth : Int32} (hp : zIp z w T E g g Wy R mk K X XM TS TA TB) (hd : d ∈ XM) (hDm : zMD w T K d D') (hD2 : D'.1 2 = 1) (h10 : md w d 10 = Int32.ofNat s) (hVD : V = vOf D') (hX : XM.length ≤ 38) (hq : tv T q) (hb : tw T q = b) (hr : tr T b = false) (hm : mk b < 2147483646) (hx : x ≠ 0) (hV : zSgC z x V) (hVm : zSgM w s V) (e1 : g2 (zgA z 125 x) 2 = own) (e2 : g2 (zgA z 125 x) 0 = oth) (e3 : zgI z 7 0 x = src) (hTS : TS.length ≤ 100) (hl : TS.length + 1 + TA.length + TB.length ≤ 5000) (hN : 1500 < N) :
    (vgK V 4 = true ∧ fX11_resetStranger N 0 q x z = some (0, z) ∧ fX19_segment_244 N 0 b (Int32.ofNat s) src own oth w = some (0, w)) ∨
    ∃ z1 z2 w' g' R', vgK V 4 = false ∧ fX11_resetStranger N 0 q x z = some (0, zsI z1 11 15 0 1) ∧ zgI z1 11 15 0 = 0 ∧ fX11_sendOff N 0 b 0 z1 = some (0, z2) ∧ fX19_segment_244 N 0 b (Int32.ofNat s) src own oth w = some (0, w') ∧ zIp z2 w' T E g' g' Wy R' (zupd mk b (mk b + 1)) K X XM TS TA TB ∧ (∀ c n v, R c n = some v → R' c n = some v) ∧ zGs T E Wy b (fun G => G = ((fun j => zgI z1 7 j 0, zgA z1 125 0) : Dg) ∨ G.1 2 = 0) g g' ∧ (zMdC z1 (vRst V) ∧ zgI z1 7 0 0 = zad q ∧ zgI z1 7 1 0 = src ∧ zgI z1 7 3 0 = zgA z 113 b 2 ∧ g2 (zgA z1 125 0) 0 = own ∧ g2 (zgA z1 125 0) 2 = oth) ∧ zKd b z z1 ∧ zFr mX11_sendOff z1 z2 ∧ zKe X z1 z2 ∧ zFr 0x129b7f200000000000000000000000008820884000000000000120000000000000000000000000000000180000000000000000000000803d0000001000000000000000000000000000002d0000000000000000000000000000000000000000000000000000000000000000000000000000000000000000000000000000000000000000000000000000000000000000000000000000000000000000000000000000000000000000000000000 w w' ∧ ∀ d D, d ∈ XM → zMD w T K d D → zMD w' T K d D := by
  obtain ⟨⟨p1, p2, p3, p4, ⟨p5, p6, p7⟩, p8, p9, p10⟩, hR, hW⟩ := id hp
  obtain ⟨hTC, hc, -⟩ := id p1
  have hbt : b < tb T := by rw [← hb]; exact (hc.2.2.2.2.2.1 q hq).1
  obtain ⟨-, qi, qq⟩ := hc.2.2.2.2.2.1 q hq
  rw [hb] at qi qq
  have h1 := (hc.2.2.2.2.1 b hbt).2 hr
  have h0 : 0 < tp T b := by omega
  have q0 : tq T b 0 = q := by rw [← qq]; congr 1; omega
  have wl : ∀ q, tv T q → (gW g q).length ≤ 16 := fun q hq => (p1.2.2.2.2.2.1 q hq).1
  obtain ⟨c1, c2⟩ := zc_stranger (N := N) hTC hq hb hx hV (by omega) p10 (g2_and _ _) (g2_and _ _)
  cases c4 : vgK V 4 with
  | true =>
    refine Or.inl ⟨rfl, c1 c4, ?_⟩
    unfold fX19_segment_244
    rw [zm_hasf 4 hVm, zc_e, c4, if_pos (show ¬ zbi true = 0 by decide)]
  | false =>
    obtain ⟨z1, a1, a2, a3, a4, ⟨a5, a6, a7⟩, a8, a9⟩ := c2 c4
    obtain ⟨x2, x3, x4, x5, x6, x7, x8⟩ := id a2.1
    obtain ⟨w1, s2, b1, b2, b3, b4, b5, b6, b7, b8, b9, b10, b11, b12, b13⟩ := zm_newSg (N := N) (if vgK V 8 = true then 4 else 12) (if vgK V 8 = true then vgT V else 0) p2 (by omega) wl hTS hl (by omega)
    obtain ⟨w2, hw2⟩ : ∃ y, y = zsA w1 174 0 (10 * s2 + 4) (if vgK V 8 = true then 0 else vgN V + Int32.ofNat (vSz V)) := ⟨_, rfl⟩
    have A2 : ∀ k o i, ¬ (k = 174 ∧ o = 0 ∧ i = 10 * s2 + 4) → zgA w2 k o i = zgA w1 k o i := fun k o i n => by rw [hw2, zgA_sA, if_neg n]
    obtain ⟨n1, n2, -⟩ := zm_rowSg (w' := w2) b4 b5 b2 (fun k o i n => A2 k o i (by omega)) (A2 174 0 _ (by omega)) (fun k j o => by rw [hw2]; rfl) (fun k o i _ => by rw [hw2]; rfl) (fun k o i => by rw [hw2]; rfl) (fun k o i => by rw [hw2]; rfl)
    have fw : zFr 0x1400000000000000000000000000000000800000000000000000000000000000000000000000000000000000000000000000000000000000000000000000000000000000000000000000000000000000000000000000000000000000000000000000000000000000000000000000000000000000000000000000000000000000000000000000000000000000000000000000000000000000000000000000000000000000000000000000 w w2 := by
      refine ⟨fun k j o hk hm => ⟨?_, ?_⟩, fun k o i hm => ⟨?_, ?_, ?_⟩⟩
      · rw [hw2]
        show zgI w1 k j o = _
        refine b8 k j o ?_
        rintro ⟨rfl, rfl⟩; revert hm; decide
      · rw [hw2]; exact b12 k j o
      · have k1 : ¬ k = 174 := by rintro rfl; revert hm; decide
        have k2 : ¬ k = 176 := by rintro rfl; revert hm; decide
        rw [A2 k o i (by omega)]; exact b9 k o i (by omega) (by omega)
      · rw [hw2]; exact b10 k o i
      · rw [hw2]; exact b11 k o i
    have hp2 : zIp z w2 T E g g Wy R mk K X XM (s2 :: TS) TA TB := zIp_mG fw (by decide) (by decide +kernel) (by decide) n1 hp
    have m2 : ∀ k, k < 10 → msg w2 s2 k = if k = 4 then (if vgK V 8 = true then 0 else vgN V + Int32.ofNat (vSz V)) else sgv (if vgK V 8 = true then 4 else 12) (if vgK V 8 = true then vgT V else 0) k := fun k hk => by
      unfold msg
      by_cases q4 : k = 4
      · rw [if_pos q4, hw2, zgA_sA, if_pos ⟨rfl, rfl, by omega⟩]
      · rw [if_neg q4, A2 174 0 _ (by omega)]; exact b6 k hk
    have Vm2 : zSgM w2 s2 (vRst V) := by
      refine ⟨b2, ⟨?_, ?_, ?_, ?_, ?_, ?_⟩, Nat.zero_le _, fun i hi => absurd hi (Nat.not_lt_zero i)⟩
      · rw [m2 2 (by omega), if_neg (by omega)]; rfl
      · rw [m2 3 (by omega), if_neg (by omega)]; rfl
      · rw [m2 4 (by omega), if_pos rfl]; rfl
      · rw [m2 5 (by omega), if_neg (by omega)]; rfl
      · rw [m2 6 (by omega), if_neg (by omega)]; rfl
      · rw [m2 7 (by omega), if_neg (by omega)]; rfl
    obtain ⟨t1, t2, t3, t4, t5⟩ := id a2.2.1
    obtain ⟨z2, w', g', R', k1, k2, k3, k4, k5, k6, k7, k8, k9⟩ := zIp_sayG (own := own) (goal := src) (pp := oth) (mkr := 0) (N := N) hp2 (by omega) hbt hr h0 hm Vm2 (by rw [A2 176 0 s2 (by omega)]; exact b5) a3 a4 (by rw [q0]; exact a5) (a6.trans e3) a7 x5 x2 x3 x4 x6 x7 x8 (a8.trans e1) (a9.trans e2) t1 t2 t3 t4 t5 a2.2.2.2 (fun y => by rw [vRst_1] at y; cases y) hN
    refine Or.inr ⟨z1, z2, w', g', R', rfl, a1, (a3.1 11 15 0 (by omega)).trans p10, k1, ?_, k3, k4, k5, ⟨a2, a5, a6.trans e3, a7, a8.trans e1, a9.trans e2⟩, a3, k6, k7, ?_, fun d D hd hD => k9 d D hd (n2 d D hd (b7 d D hd hD))⟩
    · unfold fX19_segment_244
      have st4 : fX19_setSeg N 0 (Int32.ofNat s2) 4 (if vgK V 8 = true then 0 else vgN V + Int32.ofNat (vSz V)) w1 = some (0, w2) := by rw [hw2]; exact zm_setSg (k := 4) b2 (by omega)
      rw [zm_hasf 4 hVm, zc_e, c4, if_neg (show ¬ ¬ zbi false = 0 by decide), zm_hasf 8 hVm, zc_e]
      have Vm1 : zSgM w1 s V := by
        rw [hVD]
        exact (zSgM_md (b7 d D' hd hDm) hD2 ((b9 172 0 _ (by omega) (by omega)).trans h10) hVm.1).1
      cases c8 : vgK V 8 with
      | true =>
        rw [c8] at b1 st4
        rw [if_neg (show ¬ zbi true = 0 by decide)]
        unfold fX19_segment_274
        rw [if_neg (show ¬ zbi true = 0 by decide), zm_sgT hVm, zc_e]
        unfold fX19_segment_289
        rw [if_pos rfl, if_pos rfl] at b1
        rw [b1, zc_e, if_neg (show ¬ zbi true = 0 by decide)]
        unfold fX19_segment_319
        rw [if_pos rfl] at st4
        rw [st4, zc_e, k2, zc_e]
      | false =>
        rw [c8] at b1 st4
        rw [if_pos (show zbi false = 0 from rfl)]
        unfold fX19_segment_274
        rw [if_pos (show zbi false = 0 from rfl)]
        unfold fX19_segment_289
        rw [if_neg (by decide), if_neg (by decide)] at b1
        rw [b1, zc_e, if_pos (show zbi false = 0 from rfl), zm_sgN Vm1, zc_e, zm_size Vm1, zc_e]
        unfold fX19_segment_319
        rw [if_neg (by decide)] at st4
        rw [st4, zc_e, k2, zc_e]
    · exact zFr_tr (zFr_w fw (by decide)) (zFr_w k8 (by decide))
