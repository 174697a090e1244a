/-! a segment that was made is sent: both sides -/
theorem tha_own {T : Tp} {b : Nat} (h : 0 < tp T b) : tha T b (zad (tq T b 0)) = true := by
  unfold tha
  obtain ⟨k, hk⟩ : ∃ k, tp T b = k + 1 := ⟨tp T b - 1, by omega⟩
  rw [hk]
  unfold zfst
  simp
theorem zMS_of {w : St} {K : Int32 → Int32 → Int32 → Prop} {s : Nat} {V : Sv} {D : Dg} (h : zSgM w s V) (h0 : msg w s 0 = g2 D.2 0) (h1 : msg w s 1 = g2 D.2 2) (e2 : g2 D.2 12 = vgF V) (e3 : g4 D.2 4 = vgN V) (e4 : g4 D.2 8 = vgT V) (e5 : g2 D.2 14 = vgW V) (e6 : g2 D.2 16 = vgL V) (ew : dw D = 20 + vgM V) (eb : ∀ i, i < vgM V → D.2 (20 + i) = vgB V i) (hK : vgK V 1 = true → K (D.1 9) (msg w s 8) (msg w s 9)) : zMS w K s D := by
  obtain ⟨s1, ⟨a2, a3, a4, a5, a6, a7⟩, a8, a9⟩ := h
  refine ⟨h0, h1, by rw [a2, e2], by rw [a3, e3], by rw [a4, e4], by rw [a5, e5], by rw [a6, e6], ?_, by omega, fun i hi => ?_, fun y => hK ?_⟩
  · rw [a7, ew, show 20 + vgM V - 20 = vgM V from by omega]
  · have hi : i < vgM V := by omega
    rw [a9 i hi, eb i hi]
  · rw [e2] at y
    exact decide_eq_true y
theorem zIp_mkD {z z' w w' : St} {T : Tp} {E : Ev} {g : Sg} {Wy : Wyt} {R : Rg} {mk : Nat → Nat} {K : Int32 → Int32 → Int32 → Prop} {X XM TS TS' TA TB : List Nat} {b d : Nat} {D : Dg} (hp : zIp z w T E g g Wy R mk K X XM TS TA TB) (hb : b < tb T) (hm : mk b < 2147483646) (kd : zKd b z z') (t2 : zgA z' 113 b 2 = zgA z 113 b 2 + 1) (n : zNm w' T K g (d :: XM) TS' TA TB) (f : zFr 0x100000000000000000000000000000000040000000000000000000000000000000000000000000000000000000000000000000000000000000000000000000000000000000000000010000000000000000000000000000000000000000000000000000000000000000000000000000000000000000000000000000000000000000000000000000000000000000000000000000000000000000000000000000000000000000000000000 w w') (i4 : ∀ c, zgI w' 12 4 c = if c = b then zgI w 12 4 b + 1 else zgI w 12 4 c) :
    zIp z' w' T E g g Wy (rgNew R b (mk b) D) (zupd mk b (mk b + 1)) K X (d :: XM) TS' TA TB ∧ (∀ c n v, R c n = some v → rgNew R b (mk b) D c n = some v) := by
  obtain ⟨⟨p1, p2, p3, p4, ⟨p5, p6, p7⟩, p8, p9, p10⟩, hR, hW⟩ := hp
  have mono := rgNew_mono (D := D) (zRg_free hR b)
  have fc := zKd_f kd
  refine ⟨⟨⟨zKd_NC kd p1, zMV_up f (by decide) n p2, p3, zGI_mono (fun G hG => zPd_mono mono hG) p4, ⟨zWyc_fr fc (by decide) p5, zWym_fr f (by decide) p6, p7⟩, zRE_fr fc (by decide) f (by decide) p8, fun c hc => ?_, (kd.1 11 15 0 (by omega)).trans p10⟩, zRg_new hR hm hb (fun c hc => kd.2.1 113 c 2 (by omega) (by omega)) t2, hW⟩, mono⟩
  obtain ⟨a2, a3, a4, a6, a7⟩ := p9 c hc
  have A : ∀ k, k ≠ 2 → zgA z' 113 c k = zgA z 113 c k := fun k hk => kd.2.1 113 c k (by omega) (by omega)
  rw [A 3 (by decide), A 4 (by decide), A 6 (by decide), A 7 (by decide), zFr_gI f (by decide) (by decide) (j := 5), zFr_gI f (by decide) (by decide) (j := 6), zFr_gI f (by decide) (by decide) (j := 8), zFr_gI f (by decide) (by decide) (j := 9)]
  refine ⟨?_, a3, a4, a6, a7⟩
  rw [i4]
  by_cases e : c = b
  · subst e; rw [if_pos rfl, t2, a2]
  · rw [if_neg e, kd.2.1 113 c 2 (by omega) (by omega)]; exact a2
/-- the class addresses what it has made -/
theorem zc_address {z : St} {T : Tp} {V : Sv} {b e N : Nat} (hT : zTC z T) (hc : zTc T) (hb : b < tb T) (h0 : 0 < tp T b) (h2 : zgR z 2 12 e = some e) (hp1 : zgI z 2 1 e &&& (65535 : Int32) = zgI z 2 1 e) (hp3 : zgI z 2 3 e &&& (65535 : Int32) = zgI z 2 3 e) (hV : zMdC z V) (hN : 4 < N) :
    ∃ z', fX11_addressSegment N 0 b e z = some (0, z') ∧ zKd b z z' ∧ zgA z' 113 b 2 = zgA z 113 b 2 + 1 ∧ (zgI z' 7 0 0 = zad (tq T b 0) ∧ zgI z' 7 1 0 = zgI z 2 2 e ∧ zgI z' 7 3 0 = zgA z 113 b 2 ∧ zgI z' 7 9 0 = zgI z 3 14 e) ∧ (∀ j, ¬ (j = 0 ∨ j = 1 ∨ j = 3 ∨ j = 9) → zgI z' 7 j 0 = zgI z 7 j 0) ∧ g2 (zgA z' 125 0) 0 = zgI z 2 1 e ∧ g2 (zgA z' 125 0) 2 = zgI z 2 3 e ∧ ∀ i, 4 ≤ i → zgA z' 125 0 i = zgA z 125 0 i := by
  obtain ⟨-, -, -, -, kq, -⟩ := hT.2.1.2 b hb
  have v := tv_q hc hb h0
  obtain ⟨-, -, -, -, t4⟩ := hT.2.2.2 _ v
  have e13 : zgR z 11 13 0 = some 0 := hT.1.2.2.1
  obtain ⟨y2, hy2⟩ : ∃ y, y = zsI (zsI z 7 0 0 (zad (tq T b 0))) 7 1 0 (zgI z 2 2 e) := ⟨_, rfl⟩
  obtain ⟨B, hB⟩ : ∃ B, B = p2 (p2 (zgA y2 125 0) 0 (zgI z 2 1 e)) 2 (zgI z 2 3 e) := ⟨_, rfl⟩
  obtain ⟨z', hz'⟩ : ∃ y, y = zsI (zsI (zsA (zsC y2 125 0 B) 113 b 2 (zgA z 113 b 2 + 1)) 7 3 0 (zgA z 113 b 2)) 7 9 0 (zgI z 3 14 e) := ⟨_, rfl⟩
  have A2 : zgA y2 125 0 = zgA z 125 0 := by rw [hy2]; rfl
  have AB : zgA z' 125 0 = B := by
    funext i
    rw [hz']
    show zgA (zsA (zsC y2 125 0 B) 113 b 2 (zgA z 113 b 2 + 1)) 125 0 i = B i
    rw [zgA_sA, if_neg (by omega), zgA_sCs]
  refine ⟨z', ?_, ?_, ?_, ⟨?_, ?_, ?_, ?_⟩, fun j q => ?_, ?_, ?_, fun i hi => ?_⟩
  · unfold fX11_addressSegment
    rw [show (0 : Int32) = Int32.ofNat 0 from rfl, zkk (show 0 < 6 by omega) (by omega), zoC (show 0 < 2147483648 by omega), kq 0 h0, zl_e, e13, zl_e, zo_e, t4]
    unfold fX11_addressSegment_23
    have q22 : zgI (zsI z 7 0 0 (zad (tq T b 0))) 2 2 e = zgI z 2 2 e := by rw [zgI_sI, if_neg (by omega)]
    have q13 : zgR (zsI z 7 0 0 (zad (tq T b 0))) 11 13 0 = some 0 := e13
    rw [zd_e, zl_e, q13, zl_e, zd_e, q22, zl_e, ← hy2]
    have r13 : ∀ u : St, (∀ k j o, zgR u k j o = zgR z k j o) → zgR u 11 13 0 = some 0 := fun u hu => (hu _ _ _).trans e13
    have q21 : zgI y2 2 1 e = zgI z 2 1 e := by rw [hy2, zgI_sI, zgI_sI, if_neg (by omega), if_neg (by omega)]
    have w1 : fX7_put2 N 0 0 (zgI z 2 1 e) y2 = some (0, zsC y2 125 0 (p2 (zgA y2 125 0) 0 (zgI z 2 1 e))) := zc_put2 (i := 0) (by omega)
    rw [r13 y2 (fun k j o => by rw [hy2]; rfl), zl_e, zd_e, q21, w1, zc_e]
    have q23 : zgI (zsC y2 125 0 (p2 (zgA y2 125 0) 0 (zgI z 2 1 e))) 2 3 e = zgI z 2 3 e := by
      show zgI y2 2 3 e = _
      rw [hy2, zgI_sI, zgI_sI, if_neg (by omega), if_neg (by omega)]
    have w2 : fX7_put2 N 0 2 (zgI z 2 3 e) (zsC y2 125 0 (p2 (zgA y2 125 0) 0 (zgI z 2 1 e))) = some (0, zsC y2 125 0 B) := by
      have := zc_put2 (z := zsC y2 125 0 (p2 (zgA y2 125 0) 0 (zgI z 2 1 e))) (x := 0) (i := 2) (N := N) (v := zgI z 2 3 e) (by omega)
      rw [zsC_C, zgA_sCs, ← hB] at this
      exact this
    rw [r13 (zsC y2 125 0 (p2 (zgA y2 125 0) 0 (zgI z 2 1 e))) (fun k j o => by rw [hy2]; rfl), zl_e, zd_e, q23, w2, zc_e, r13 (zsC y2 125 0 B) (fun k j o => by rw [hy2]; rfl), zl_e, zc_nextNumber, zc_e, zd_e]
    have q113 : zgA (zsC y2 125 0 B) 113 b 2 = zgA z 113 b 2 := by rw [zgA_sC, if_neg (by omega), hy2]; rfl
    rw [q113, zl_e, r13 (zsI (zsA (zsC y2 125 0 B) 113 b 2 (zgA z 113 b 2 + 1)) 7 3 0 (zgA z 113 b 2)) (fun k j o => by rw [hy2]; rfl), zl_e]
    have q212 : zgR (zsI (zsA (zsC y2 125 0 B) 113 b 2 (zgA z 113 b 2 + 1)) 7 3 0 (zgA z 113 b 2)) 2 12 e = some e := by rw [hy2]; exact h2
    have q314 : zgI (zsI (zsA (zsC y2 125 0 B) 113 b 2 (zgA z 113 b 2 + 1)) 7 3 0 (zgA z 113 b 2)) 3 14 e = zgI z 3 14 e := by
      rw [zgI_sI, if_neg (by omega)]
      show zgI y2 3 14 e = _
      rw [hy2, zgI_sI, zgI_sI, if_neg (by omega), if_neg (by omega)]
    rw [q212, zl_e, zd_e, zd_e, q314, zl_e, ← hz']
    rfl
  · rw [hz', hy2]
    exact zKd_tr (zKd_I (by omega)) (zKd_tr (zKd_I (by omega)) (zKd_tr zKd_C (zKd_tr zKd_N (zKd_tr (zKd_I (by omega)) (zKd_I (by omega))))))
  · rw [hz']
    show zgA (zsA (zsC y2 125 0 B) 113 b 2 (zgA z 113 b 2 + 1)) 113 b 2 = _
    rw [zgA_sA, if_pos ⟨rfl, rfl, rfl⟩]
  · rw [hz', zgI_sI, zgI_sI, if_neg (by omega), if_neg (by omega)]
    show zgI y2 7 0 0 = _
    rw [hy2, zgI_sI, zgI_sI, if_neg (by omega), if_pos ⟨rfl, rfl, rfl⟩]
  · rw [hz', zgI_sI, zgI_sI, if_neg (by omega), if_neg (by omega)]
    show zgI y2 7 1 0 = _
    rw [hy2, zgI_sI, if_pos ⟨rfl, rfl, rfl⟩]
  · rw [hz', zgI_sI, zgI_sI, if_neg (by omega), if_pos ⟨rfl, rfl, rfl⟩]
  · rw [hz', zgI_sI, if_pos ⟨rfl, rfl, rfl⟩]
  · rw [hz', zgI_sI, zgI_sI, if_neg (by omega), if_neg (by omega)]
    show zgI y2 7 j 0 = _
    rw [hy2, zgI_sI, zgI_sI, if_neg (by omega), if_neg (by omega)]
  · rw [AB, hB, g2_o2 _ _ (by omega), g2_p2]; exact hp1
  · rw [AB, hB, g2_p2]; exact hp3
  · rw [AB, hB, p2_at _ _ (by omega), p2_at _ _ (by omega), A2]
/-- what the class made and addressed is sent, the model says its segment -/
theorem zIp_sayG {z z1 w : St} {T : Tp} {E : Ev} {g : Sg} {Wy : Wyt} {R : Rg} {mk : Nat → Nat} {K : Int32 → Int32 → Int32 → Prop} {X XM TS TA TB : List Nat} {b s N : Nat} {own goal pp mkr : Int32} {V : Sv} (hp : zIp z w T E g g Wy R mk K X XM (s :: TS) TA TB) (hX : XM.length ≤ 40) (hb : b < tb T) (hr : tr T b = false) (h0 : 0 < tp T b) (hm : mk b < 2147483646) (hVm : zSgM w s V) (h176 : zgA w 176 0 s = 1) (a2 : zKd b z z1) (a3 : zgA z1 113 b 2 = zgA z 113 b 2 + 1) (a40 : zgI z1 7 0 0 = zad (tq T b 0)) (a41 : zgI z1 7 1 0 = goal) (a43 : zgI z1 7 3 0 = zgA z 113 b 2) (a49 : zgI z1 7 9 0 = mkr) (x2 : zgI z1 7 2 0 = 1) (x4 : zgI z1 7 4 0 = 64) (x5 : zgI z1 7 5 0 = 0) (x10 : zgI z1 7 10 0 = 0) (x6 : zgI z1 7 6 0 = Int32.ofNat (20 + vgM V)) (x7 : zgI z1 7 7 0 = Int32.ofNat (20 + vgM V)) (a6 : g2 (zgA z1 125 0) 0 = own) (a7 : g2 (zgA z1 125 0) 2 = pp) (y2 : g2 (zgA z1 125 0) 12 = vgF V) (y4 : g4 (zgA z1 125 0) 4 = vgN V) (y8 : g4 (zgA z1 125 0) 8 = vgT V) (y14 : g2 (zgA z1 125 0) 14 = vgW V) (y16 : g2 (zgA z1 125 0) 16 = vgL V) (yb : ∀ i, i < vgM V → zgA z1 125 0 (20 + i) = vgB V i) (hK : vgK V 1 = true → K mkr (msg w s 8) (msg w s 9)) (hN : 1500 < N) :
    ∃ z' w' g' R', fX11_sendOff N 0 b 0 z1 = some (0, z') ∧ fX19_say N 0 b (Int32.ofNat s) own goal pp w = some (0, w') ∧ zIp z' w' T E g' g' Wy R' (zupd mk b (mk b + 1)) K X XM TS TA TB ∧ (∀ c n v, R c n = some v → R' c n = some v) ∧ zGs T E Wy b (fun G => G = ((fun j => zgI z1 7 j 0, zgA z1 125 0) : Dg) ∨ G.1 2 = 0) g g' ∧ zFr mX11_sendOff z1 z' ∧ zKe X z1 z' ∧ zFr 0x129b7f200000000000000000000000008820884000000000000120000000000000000000000000000000180000000000000000000000803d0000001000000000000000000000000000002d0000000000000000000000000000000000000000000000000000000000000000000000000000000000000000000000000000000000000000000000000000000000000000000000000000000000000000000000000000000000000000000000000 w w' ∧ (∀ d D, d ∈ XM → zMD w T K d D → zMD w' T K d D) := by
  obtain ⟨⟨p1, p2, p3, p4, ⟨p5, p6, p7⟩, p8, p9, p10⟩, hR, hW⟩ := id hp
  have hc := p2.2.1
  have hM := hVm.2.2.1
  have v := tv_q hc hb h0
  have vw : tw T (tq T b 0) = b := (hc.2.2.2.2.2.2.1 b 0 hb h0).2.1
  -- the model's ports
  obtain ⟨w1, hw1⟩ : ∃ y, y = zsA (zsA w 174 0 (10 * s + 0) own) 174 0 (10 * s + 1) pp := ⟨_, rfl⟩
  have hs : s < 2400 := hVm.1
  have A1 : ∀ k o i, ¬ (k = 174 ∧ o = 0 ∧ 10 * s ≤ i ∧ i < 10 * s + 2) → zgA w1 k o i = zgA w k o i := fun k o i q => by rw [hw1, zgA_sA, zgA_sA, if_neg (by omega), if_neg (by omega)]
  have m1 : ∀ k, 2 ≤ k → k < 10 → msg w1 s k = msg w s k := fun k q q2 => A1 174 0 _ (by omega)
  have m10 : msg w1 s 0 = own := by unfold msg; rw [hw1, zgA_sA, if_neg (by omega), zgA_sA, if_pos ⟨rfl, rfl, by omega⟩]
  have m11 : msg w1 s 1 = pp := by unfold msg; rw [hw1, zgA_sA, if_pos ⟨rfl, rfl, by omega⟩]
  obtain ⟨n1, n2, -⟩ := zm_rowSg (w' := w1) p2 h176 hs (fun k o i q => A1 k o i (by omega)) (m1 8 (by omega) (by omega)) (fun k j o => by rw [hw1]; rfl) (fun k o i _ => by rw [hw1]; rfl) (fun k o i => by rw [hw1]; rfl) (fun k o i => by rw [hw1]; rfl)
  have Vm1 : zSgM w1 s V := by
    obtain ⟨-, ⟨b2, b3, b4, b5, b6, b7⟩, b8, b9⟩ := hVm
    exact ⟨hs, ⟨(m1 2 (by omega) (by omega)).trans b2, (m1 3 (by omega) (by omega)).trans b3, (m1 4 (by omega) (by omega)).trans b4, (m1 5 (by omega) (by omega)).trans b5, (m1 6 (by omega) (by omega)).trans b6, (m1 7 (by omega) (by omega)).trans b7⟩, b8, fun i hi => by rw [← b9 i hi, hw1]; rfl⟩
  have f1 : zFr 0x400000000000000000000000000000000000000000000000000000000000000000000000000000000000000000000000000000000000000000000000000000000000000000000000000000000000000000000000000000000000000000000000000000000000000000000000000000000000000000000000000000000000000000000000000000000000000000000000000000000000000000000000000000000000000000000000000 w w1 := by rw [hw1]; exact zFr_A (zFr_A (zFr_rf _ _) (by decide)) (by decide)
  have hp1' : zIp z w1 T E g g Wy R mk K X XM (s :: TS) TA TB := by
    refine ⟨⟨p1, n1, p3, p4, ⟨p5, zWym_fr f1 (by decide) p6, p7⟩, zRE_fr (zFr_rf 0 z) (by decide) f1 (by decide) p8, fun c hc1 => ?_, p10⟩, hR, hW⟩
    have := p9 c hc1
    rw [hw1]; exact this
  -- the model's datagram
  obtain ⟨w2, d, r1, r2, r3, r4, r5, r6, r7, r8, r9⟩ := zm_makeN (N := N) (b := b) (kind := 1) (len := Int32.ofNat (20 + vgM V)) (source := zad (tq T b 0)) (goal := goal) hc (by omega) n1.2.2.2.2.1.2.2 (by omega)
  obtain ⟨t1, t2⟩ := zm_segN hc r4 (by rw [r5 10 (by omega)]; rfl) hs
  obtain ⟨w3, hw3⟩ : ∃ y, y = zsA w2 172 0 (18 * d + 10) (Int32.ofNat s) := ⟨_, rfl⟩
  rw [← hw3] at t1
  have f3 : zFr 0x100000000000000000000000000000000040000000000000000000000000000000000000000000000000000000000000000000000000000000000000000000000000000000000000010000000000000000000000000000000000000000000000000000000000000000000000000000000000000000000000000000000000000000000000000000000000000000000000000000000000000000000000000000000000000000000000000 w1 w3 := by rw [hw3]; exact zFr_A (zFr_w r7 (by decide)) (by decide)
  have i4 : ∀ c, zgI w3 12 4 c = if c = b then zgI w1 12 4 b + 1 else zgI w1 12 4 c := fun c => by
    rw [hw3]
    show zgI w2 12 4 c = _
    rw [r8 12 4 c (by omega)]
    simp only [true_and]
  -- what is sent
  obtain ⟨D, hD⟩ : ∃ D : Dg, D = (fun j => zgI z1 7 j 0, zgA z1 125 0) := ⟨_, rfl⟩
  have Dj : ∀ j, D.1 j = zgI z1 7 j 0 := fun j => by rw [hD]
  have DB : D.2 = zgA z1 125 0 := by rw [hD]
  have D2 : D.1 2 = 1 := (Dj 2).trans (x2)
  have D4 : D.1 4 = 64 := (Dj 4).trans (x4)
  have D5 : D.1 5 = Int32.ofNat 0 := (Dj 5).trans (x5)
  have D10 : D.1 10 = 0 := (Dj 10).trans (x10)
  have D6 : D.1 6 = Int32.ofNat (20 + vgM V) := (Dj 6).trans (x6)
  have D7 : D.1 7 = Int32.ofNat (20 + vgM V) := (Dj 7).trans (x7)
  have D0 : D.1 0 = zad (tq T b 0) := (Dj 0).trans a40
  have D1 : D.1 1 = goal := (Dj 1).trans a41
  obtain ⟨c2, -, -, -, -⟩ := p9 b hb
  have cmk : zgA z 113 b 2 = Int32.ofNat (mk b) := (hR.2 b hb).1
  have D3 : D.1 3 = Int32.ofNat (mk b) := (Dj 3).trans (a43.trans cmk)
  have D9 : D.1 9 = mkr := (Dj 9).trans a49
  have eL : dl D = 20 + vgM V := by unfold dl; rw [D6]; exact zoC (by omega)
  have eW : dw D = 20 + vgM V := by unfold dw; rw [D7]; exact zoC (by omega)
  have eF : df D = 0 := by unfold df; rw [D5]; exact zoC (by omega)
  have hDw : zDw D := ⟨by rw [eL]; exact D6, by rw [eF]; exact D5, by rw [eW]; exact D7, by omega, by omega, by omega⟩
  obtain ⟨q1, mono⟩ := zIp_mkD (D := D) hp1' hb hm a2 a3 t1 f3 i4
  have hPD : zPd T (rgNew R b (mk b) D) D := by
    refine ⟨hDw, ⟨tq T b 0, mk b, v, D0, D3, by omega, ?_⟩, ⟨64, by omega, by omega, D4⟩, by rw [eF], Or.inr (by omega), fun _ => Or.inr (by omega), fun _ => by omega⟩
    show (if _ then _ else _) = _
    rw [if_pos ⟨vw, rfl⟩]
  have e2 : ∀ i, 4 ≤ i → g2 D.2 i = g2 (zgA z1 125 0) i := fun i hi => by rw [DB]
  have e4 : ∀ i, 4 ≤ i → g4 D.2 i = g4 (zgA z1 125 0) i := fun i hi => by rw [DB]
  have A3 : ∀ i, zgA w3 174 0 i = zgA w1 174 0 i := fun i => zFr_gA f3 (by decide) 0 i
  have L3 : ∀ i, zgL w3 175 0 i = zgL w1 175 0 i := fun i => zFr_gL f3 (by decide) 0 i
  have Vm3 : zSgM w3 s V := zSgM_cg A3 L3 Vm1
  have ms3 : ∀ k, msg w3 s k = msg w1 s k := fun k => A3 _
  have md3 : ∀ k, k < 18 → md w3 d k = if k = 10 then Int32.ofNat s else md w2 d k := fun k hk => by
    rw [hw3, md_set (by omega) hk]
    simp only [true_and]
  have hDm : zMD w3 T K d D := by
    have nn : ∀ k, k < 10 → md w3 d k = md w2 d k := fun k hk => by rw [md3 k (by omega), if_neg (by omega)]
    refine ⟨⟨r2, ?_, ?_, ?_, ?_, ?_⟩, ⟨?_, ?_, ?_, ?_, ?_, by omega⟩, fun _ => ⟨s, hs, ?_, ?_, ?_⟩, fun y => ?_, fun y => ?_, fun y => ?_, fun y => ?_⟩
    · rw [nn 0 (by omega), r5 0 (by omega), D0]; rfl
    · rw [nn 1 (by omega), r5 1 (by omega), D1]; rfl
    · rw [nn 2 (by omega), r5 2 (by omega), D2]; rfl
    · rw [nn 3 (by omega), r5 3 (by omega), D3]
      show zgI w1 12 4 b = _
      rw [hw1]
      show zgI w 12 4 b = _
      rw [← c2]; exact cmk
    · rw [nn 4 (by omega), r5 4 (by omega), D4]; rfl
    · rw [nn 5 (by omega), r5 5 (by omega), D6]; rfl
    · rw [nn 6 (by omega), r5 6 (by omega), D5]; rfl
    · rw [nn 7 (by omega), r5 7 (by omega), decide_eq_false (by omega)]; rfl
    · rw [nn 8 (by omega), r5 8 (by omega), decide_eq_false (by omega)]; rfl
    · rw [nn 9 (by omega), r5 9 (by omega), D10]; rfl
    · rw [md3 10 (by omega), if_pos rfl]
    · rw [md3 11 (by omega), if_neg (by omega), r5 11 (by omega)]; rfl
    · refine zMS_of (V := V) Vm3 ?_ ?_ ?_ ?_ ?_ ?_ ?_ eW (fun i hi => ?_) (fun y => ?_)
      · rw [ms3, m10, DB, a6]
      · rw [ms3, m11, DB, a7]
      · rw [e2 12 (by omega)]; exact y2
      · rw [e4 4 (by omega)]; exact y4
      · rw [e4 8 (by omega)]; exact y8
      · rw [e2 14 (by omega)]; exact y14
      · rw [e2 16 (by omega)]; exact y16
      · rw [DB]; exact yb i hi
      · rw [D9, ms3, ms3, m1 8 (by omega) (by omega), m1 9 (by omega) (by omega)]; exact hK y
    · rw [D2] at y; exact absurd y (by decide)
    · rw [D2] at y; exact absurd y (by decide)
    · rw [D2] at y; exact absurd y (by decide)
    · rw [D2] at y; exact absurd y (by decide)
  obtain ⟨z', w4, g', u1, u2, -, u3, u4, u5, u6⟩ := zIp_send (x := 0) (d := d) (N := N) q1 hb (Or.inl rfl) (D := D) ⟨fun j _ _ => (Dj j).symm, fun i _ => by rw [eF, Nat.zero_add, DB]⟩ (by rw [D2]; decide) List.mem_cons_self (by simp; omega) hDm D10 hPD (fun _ _ => by rw [D0]; exact tha_own h0) (by omega)
  have u2 := u2 hr
  obtain ⟨w5, k1, k2, k3, k4⟩ := zIp_drop (N := N) u3
  have fC : zFr mX11_sendOff z1 z' := wX11_sendOff (Nat.and_self _) (zFr_rf _ _) _ _ u1
  have fS : zFr mX19_hostSends w3 w4 := wX19_hostSends (Nat.and_self _) (zFr_rf _ _) _ _ u2
  refine ⟨z', w5, g', rgNew R b (mk b) D, u1, ?_, k2, mono, by rw [← hD]; exact u6, fC, u4, zFr_tr (zFr_w f1 (by decide)) (zFr_tr (zFr_w f3 (by decide)) (zFr_tr (zFr_w fS (by decide)) (zFr_w k4 (by decide)))), fun d' D' hd' hD' => zKm_MD k3 (List.mem_cons_of_mem _ hd') (zKm_MD u5 (List.mem_cons_of_mem _ hd') ?_)⟩
  · unfold fX19_say
    have s0 : ∀ u x, fX19_setSeg N 0 (Int32.ofNat s) 0 x u = some (0, zsA u 174 0 (10 * s + 0) x) := fun u x => zm_setSg (k := 0) hs (by omega)
    have s1 : ∀ u x, fX19_setSeg N 0 (Int32.ofNat s) 1 x u = some (0, zsA u 174 0 (10 * s + 1) x) := fun u x => zm_setSg (k := 1) hs (by omega)
    have q147 : zgQ w1 147 b 0 = some (tq T b 0) := (n1.1.2.1.2 b hb).2.2.2.2 0 h0
    have set10 : fX19_set N 0 (Int32.ofNat d) 10 (Int32.ofNat s) w2 = some (0, w3) := by rw [hw3]; exact zm_set (k := 10) r2 (by omega)
    rw [s0, zc_e, s1, zc_e, ← hw1, zm_sgM Vm1, zc_e]
    show (zk (Int32.ofNat 0) 6 _) = _
    rw [zkk (show 0 < 6 by omega) (by omega)]
    show (zl (zgQ w1 147 b (Int32.ofNat 0).toNatClampNeg) _) = _
    rw [zoC (show 0 < 2147483648 by omega), q147, zl_e, zd_e, zm_address n1.1 hc v, zc_e, show (20 : Int32) + Int32.ofNat (vgM V) = Int32.ofNat (20 + vgM V) from zo_add 20 _, r1, zc_e, set10, zc_e, u2, zc_e, k1, zc_e]
  · have q1 := n2 d' D' hd' hD'
    have q2 := zKm_MD r6 hd' q1
    rw [hw3]; exact t2 d' D' hd' q2
/-- what was made is sent -/
theorem zIp_say {z w : St} {T : Tp} {E : Ev} {g : Sg} {Wy : Wyt} {R : Rg} {mk : Nat → Nat} {K : Int32 → Int32 → Int32 → Prop} {TS TA TB : List Nat} {b e s N : Nat} {V : Sv} (hp : zIp z w T E g g Wy R mk K [] [] (s :: TS) TA TB) (hb : b < tb T) (hr : tr T b = false) (h0 : 0 < tp T b) (hm : mk b < 2147483646) (h2 : zgR z 2 12 e = some e) (hp1 : zgI z 2 1 e &&& (65535 : Int32) = zgI z 2 1 e) (hp3 : zgI z 2 3 e &&& (65535 : Int32) = zgI z 2 3 e) (hV : zMdC z V) (hVm : zSgM w s V) (h176 : zgA w 176 0 s = 1) (d21 : zgI z 2 1 e = zgI w 14 2 e) (d22 : zgI z 2 2 e = zgI w 14 3 e) (d23 : zgI z 2 3 e = zgI w 14 4 e) (hK : vgK V 1 = true → K (zgI z 3 14 e) (msg w s 8) (msg w s 9)) (hN : 1500 < N) :
    ∃ z1 z' w' g' R', fX11_addressSegment N 0 b e z = some (0, z1) ∧ zgR z1 11 13 0 = some 0 ∧ fX11_sendOff N 0 b 0 z1 = some (0, z') ∧ fX19_say N 0 b (Int32.ofNat s) (zgI w 14 2 e) (zgI w 14 3 e) (zgI w 14 4 e) w = some (0, w') ∧ zIp z' w' T E g' g' Wy R' (zupd mk b (mk b + 1)) K [] [] TS TA TB ∧ (∀ c n v, R c n = some v → R' c n = some v) ∧ zGs T E Wy b (fun G => G = ((fun j => zgI z1 7 j 0, zgA z1 125 0) : Dg) ∨ G.1 2 = 0) g g' ∧ zKd b z z1 ∧ zFr mX11_sendOff z1 z' ∧ zFr 0x129b7f200000000000000000000000008820884000000000000120000000000000000000000000000000180000000000000000000000803d0000001000000000000000000000000000002d0000000000000000000000000000000000000000000000000000000000000000000000000000000000000000000000000000000000000000000000000000000000000000000000000000000000000000000000000000000000000000000000000 w w' ∧ (zgI z1 7 0 0 = zad (tq T b 0) ∧ zgI z1 7 1 0 = zgI z 2 2 e ∧ zgI z1 7 3 0 = zgA z 113 b 2 ∧ zgI z1 7 9 0 = zgI z 3 14 e ∧ (∀ j, ¬ (j = 0 ∨ j = 1 ∨ j = 3 ∨ j = 9) → zgI z1 7 j 0 = zgI z 7 j 0) ∧ g2 (zgA z1 125 0) 0 = zgI z 2 1 e ∧ g2 (zgA z1 125 0) 2 = zgI z 2 3 e ∧ ∀ i, 4 ≤ i → zgA z1 125 0 i = zgA z 125 0 i) ∧ zKe [] z1 z' := by
  obtain ⟨⟨p1, p2, p3, p4, ⟨p5, p6, p7⟩, p8, p9, p10⟩, hR, hW⟩ := id hp
  have hc := p2.2.1
  obtain ⟨z1, a1, a2, a3, ⟨a40, a41, a43, a49⟩, a5, a6, a7, a8⟩ := zc_address (b := b) (N := N) p1.1 hc hb h0 h2 hp1 hp3 hV (by omega)
  obtain ⟨⟨x2, x4, x5, x9, x10, x6, x7⟩, ⟨y2, y4, y8, y14, y16⟩, -, yb⟩ := id hV
  have e2 : ∀ i, 4 ≤ i → g2 (zgA z1 125 0) i = g2 (zgA z 125 0) i := fun i hi => by unfold g2; rw [a8 i hi, a8 (i + 1) (by omega)]
  have e4 : ∀ i, 4 ≤ i → g4 (zgA z1 125 0) i = g4 (zgA z 125 0) i := fun i hi => by unfold g4; rw [e2 i hi, e2 (i + 2) (by omega)]
  obtain ⟨z', w', g', R', b1, b2, b3, b4, b5, b6, b8, b7, -⟩ := zIp_sayG (own := zgI w 14 2 e) (goal := zgI w 14 3 e) (pp := zgI w 14 4 e) (N := N) hp (by simp) hb hr h0 hm hVm h176 a2 a3 a40 (a41.trans d22) a43 a49 ((a5 2 (by omega)).trans x2) ((a5 4 (by omega)).trans x4) ((a5 5 (by omega)).trans x5) ((a5 10 (by omega)).trans x10) ((a5 6 (by omega)).trans x6) ((a5 7 (by omega)).trans x7) (a6.trans d21) (a7.trans d23) ((e2 12 (by omega)).trans y2) ((e4 4 (by omega)).trans y4) ((e4 8 (by omega)).trans y8) ((e2 14 (by omega)).trans y14) ((e2 16 (by omega)).trans y16) (fun i hi => (a8 (20 + i) (by omega)).trans (yb i hi)) hK hN
  exact ⟨z1, z', w', g', R', a1, (a2.2.2.2.2 11 13 0).trans p1.1.1.2.2.1, b1, b2, b3, b4, b5, a2, b6, b7, ⟨a40, a41, a43, a49, a5, a6, a7, a8⟩, b8⟩
