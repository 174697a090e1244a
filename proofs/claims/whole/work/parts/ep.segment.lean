/-! a segment comes to a host: both sides -/
theorem zand_pow (f : Int32) (k : Nat) (hk : k < 32) (c : Int32) (hc : c.toBitVec = BitVec.twoPow 32 k) : f &&& c = if f.toBitVec.getLsbD k = true then c else 0 := by
  apply Int32.toBitVec_inj.mp
  show f.toBitVec &&& c.toBitVec = _
  rw [hc]
  apply BitVec.eq_of_getLsbD_eq
  intro j hj
  rw [BitVec.getLsbD_and, BitVec.getLsbD_twoPow]
  by_cases q : f.toBitVec.getLsbD k = true
  · rw [if_pos q, hc, BitVec.getLsbD_twoPow]
    by_cases e : k = j
    · subst e; simp [q, hk]
    · simp [e]
  · rw [if_neg q]
    have q : f.toBitVec.getLsbD k = false := by simpa using q
    show _ = (0#32 : BitVec 32).getLsbD j
    by_cases e : k = j
    · subst e; simp [q]
    · simp [e]
theorem zflag13 (f : Int32) : (f &&& (13 : Int32) = 1) ↔ (¬ f &&& (1 : Int32) = 0 ∧ f &&& (4 : Int32) = 0 ∧ f &&& (8 : Int32) = 0) := by
  have e : f &&& (13 : Int32) = (f &&& (1 : Int32)) ||| ((f &&& (4 : Int32)) ||| (f &&& (8 : Int32))) := by
    apply Int32.toBitVec_inj.mp
    show f.toBitVec &&& 13#32 = (f.toBitVec &&& 1#32) ||| ((f.toBitVec &&& 4#32) ||| (f.toBitVec &&& 8#32))
    apply BitVec.eq_of_getLsbD_eq
    intro j hj
    have hd : ∀ j, j < 32 → ((13#32 : BitVec 32).getLsbD j = ((1#32 : BitVec 32).getLsbD j || ((4#32 : BitVec 32).getLsbD j || (8#32 : BitVec 32).getLsbD j))) := by decide +kernel
    rw [BitVec.getLsbD_and, BitVec.getLsbD_or, BitVec.getLsbD_or, BitVec.getLsbD_and, BitVec.getLsbD_and, BitVec.getLsbD_and, hd j hj, Bool.and_or_distrib_left, Bool.and_or_distrib_left]
  rw [e, zand_pow f 0 (by omega) 1 (by decide), zand_pow f 2 (by omega) 4 (by decide), zand_pow f 3 (by omega) 8 (by decide)]
  cases f.toBitVec.getLsbD 0 <;> cases f.toBitVec.getLsbD 2 <;> cases f.toBitVec.getLsbD 3 <;> decide
theorem zIx_of {w : St} {T : Tp} {E : Ev} {K : Int32 → Int32 → Int32 → Prop} {g : Sg} {X TS TA TB : List Nat} {d s : Nat} (h : zMV w T E g K X TS TA TB) (hd : d ∈ X) (h10 : md w d 10 = Int32.ofNat s) (hs : s < 2400) : zIx (msg w s 8) 2592 := by
  obtain ⟨-, -, -, -, ⟨-, -, ms, mw, -, -, hP⟩, -⟩ := h
  refine hP.2.2.2.2.2 s (List.mem_append.mpr (Or.inl (List.mem_filterMap.mpr ⟨d, hold_X d hd, mgs_of h10 hs⟩)))
/-- the outcome of a segment: at a door, at a new one, at none that may have more, a stranger's -/
def zSgO (z zh w : St) (T : Tp) (E : Ev) (g : Sg) (Wy : Wyt) (R : Rg) (mk : Nat → Nat) (K : Int32 → Int32 → Int32 → Prop) (X XM TS TA : List Nat) (b q x s : Nat) (V : Sv) (own src oth : Int32) (N : Nat) (cm mm : Option (Int32 × St)) : Prop :=
  (∃ d z' w', d < 6 ∧ lvB zh b own src oth d = true ∧ fX11_takeSegment_143 N 0 q x (some (6 * b + d)) zh = some (0, z') ∧ zsgA N (6 * b + d) (Int32.ofNat s) w = some (0, w') ∧ cm = some (0, z') ∧ mm = some (0, w') ∧ zIp z' w' T E g g Wy R mk K X XM TS TA (zTB w' T) ∧ (∀ u, hEnd T u → zIx (zgI w' 14 44 u) 2592 ∧ zIx (zgI w' 14 45 u) 2592) ∧ zEc1 (6 * b + d) zh z' ∧ zBe (6 * b + d) w w') ∨
  (∃ d l z2 z3 w3 bk z' w', d < 6 ∧ l < 6 ∧ zgI zh 2 0 (6 * b + d) = 0 ∧ zgI zh 2 0 (6 * b + l) = 1 ∧ zgI zh 2 1 (6 * b + l) = own ∧ (vgK V 1 = true ∧ vgK V 4 = false ∧ vgK V 8 = false) ∧ (∀ t, t < 6 → lvB zh b own src oth t = false) ∧
    (∀ k j u, ¬ (k = 2 ∧ u = 6 * b + d) → ¬ (k = 11 ∧ j = 7 ∧ u = 0) → zgI z2 k j u = zgI zh k j u) ∧ zgI z2 11 7 0 = zgI zh 11 7 0 + 1 ∧ (∀ k u i, zgA z2 k u i = zgA zh k u i) ∧ (∀ k u i, zgL z2 k u i = zgL zh k u i) ∧ (∀ k u i, zgQ z2 k u i = zgQ zh k u i) ∧
    (zgI z2 2 0 (6 * b + d) = 2 ∧ zgI z2 2 1 (6 * b + d) = own ∧ zgI z2 2 2 (6 * b + d) = src ∧ zgI z2 2 3 (6 * b + d) = oth ∧ zgI z2 2 8 (6 * b + d) = 0 ∧ zgI z2 2 10 (6 * b + d) = 0 ∧ zgI z2 2 11 (6 * b + d) = 0) ∧
    ((∃ L M, fX3_begin N (6 * b + d) ((64000 : Int32) * Int32.ofNat (eN E) + (977 : Int32) * Int32.ofNat b) L M z2 = some (0, z3)) ∧ zEc1 (6 * b + d) z2 z3 ∧ zEe z3 w3 (6 * b + d) ∧ zgI z3 3 0 (6 * b + d) = 1 ∧ zgI z3 3 14 (6 * b + d) = zgI zh 11 7 0 + 1 ∧ zgI z3 3 15 (6 * b + d) = 0 ∧ zgI z3 6 4 (6 * b + d) = (64000 : Int32) * Int32.ofNat (eN E) + (977 : Int32) * Int32.ofNat b) ∧
    (bk < 2592 ∧ zgI w3 14 44 (6 * b + d) = Int32.ofNat bk ∧ zgI w3 14 45 (6 * b + d) = -1 ∧ zgI w3 14 46 (6 * b + d) = 0 ∧ zgI w3 14 17 (6 * b + d) = 0 ∧ zgA w3 182 0 bk = 0 ∧ zgA w3 184 0 bk = zgA w 184 0 bk + 1 ∧ ∀ c, ¬ c = bk → zgA w3 182 0 c = zgA w 182 0 c ∧ zgA w3 184 0 c = zgA w 184 0 c) ∧
    (zDm (6 * b + d) w w3 ∧ (∀ k u i, zgL w3 k u i = zgL w k u i) ∧ (∀ k u i, zgQ w3 k u i = zgQ w k u i) ∧ zgI w3 19 26 0 = zgI w 19 26 0 ∧ ∃ Rb : List Nat, (zTB w T).Perm (bk2 w (6 * b + d) ++ Rb) ∧ bk ∉ Rb ∧ (zTB w3 T).Perm (bk :: Rb)) ∧
    fX3_takeListening N (6 * b + d) x z3 = some (0, z') ∧ fX19_arriveListening N 0 (6 * b + d) (Int32.ofNat s) w3 = some (0, w') ∧ cm = some (0, z') ∧ mm = some (0, w') ∧ zIp z3 w3 T E g g Wy R mk K X XM TS TA (zTB w3 T) ∧ zIp z' w' T E g g Wy R mk K X XM TS TA (zTB w' T) ∧ (∀ u, hEnd T u → zIx (zgI w' 14 44 u) 2592 ∧ zIx (zgI w' 14 45 u) 2592) ∧ zEc1 (6 * b + d) z3 z' ∧ zBe (6 * b + d) w3 w') ∨
  (cm = some (0, zh) ∧ mm = some (0, w)) ∨
  ((∀ t, t < 6 → lvB zh b own src oth t = false) ∧ ∃ z1 z2 w' g' R', vgK V 4 = false ∧ cm = some (0, zsI z1 11 15 0 1) ∧ zgI z1 11 15 0 = 0 ∧ fX11_sendOff N 0 b 0 z1 = some (0, z2) ∧ mm = some (0, w') ∧ zIp z2 w' T E g' g' Wy R' (zupd mk b (mk b + 1)) K X XM TS TA (zTB w' T) ∧ (∀ c n v, R c n = some v → R' c n = some v) ∧ zGs T E Wy b (fun G => G = ((fun j => zgI z1 7 j 0, zgA z1 125 0) : Dg) ∨ G.1 2 = 0) g g' ∧ (zMdC z1 (vRst V) ∧ zgI z1 7 0 0 = zad q ∧ zgI z1 7 1 0 = src ∧ zgI z1 7 3 0 = zgA zh 113 b 2 ∧ g2 (zgA z1 125 0) 0 = own ∧ g2 (zgA z1 125 0) 2 = oth) ∧ zKd b zh z1 ∧ zFr mX11_sendOff z1 z2 ∧ zKe X z1 z2 ∧ zFr 0x129b7f200000000000000000000000008820884000000000000120000000000000000000000000000000180000000000000000000000803d0000001000000000000000000000000000002d0000000000000000000000000000000000000000000000000000000000000000000000000000000000000000000000000000000000000000000000000000000000000000000000000000000000000000000000000000000000000000000000000 w w' ∧ ∀ d D, d ∈ XM → zMD w T K d D → zMD w' T K d D)
theorem zp_segment {z w : St} {T : Tp} {E : Ev} {g : Sg} {Wy : Wyt} {R : Rg} {mk : Nat → Nat} {K : Int32 → Int32 → Int32 → Prop} {X XM TS TA : List Nat} {b q x s d N : Nat} {D D' : Dg} (hp : zIp z w T E g g Wy R mk K X XM TS TA (zTB w T)) (hI : ∀ u, hEnd T u → zIx (zgI w 14 44 u) 2592 ∧ zIx (zgI w 14 45 u) 2592) (h44 : ∀ e, hEnd T e → zgI z 2 0 e = 2 → ∃ bk, bk < 2592 ∧ zgI w 14 44 e = Int32.ofNat bk) (hbl : ∀ e, hEnd T e → zgI z 2 0 e = 1 → ∃ m, m ≤ 5 ∧ zgI z 2 4 e = Int32.ofNat m) (hX : XM.length ≤ 38) (hq : tv T q) (hb : tw T q = b) (hr : tr T b = false) (hm : mk b < 2147483646) (hx : (515 ≤ x ∧ x < 579) ∨ x ∈ X) (hxc : zPC 11 z x D) (hf : df D = 0) (hdl : dl D = dw D) (hDw : zDw D) (h20 : 20 ≤ dw D) (hd : d ∈ XM) (hDm : zMD w T K d D') (hD2 : D'.1 2 = 1) (e2 : D'.2 = D.2) (ew : dw D' = dw D) (h10 : md w d 10 = Int32.ofNat s) (hs : s < 2400) (hn : eN E ≤ 400000) (hTS : TS.length ≤ 100) (hl : TS.length + TA.length ≤ 4000) (hN : 4096 < N) :
    ∃ zh, fX7_readHead N x z = some (0, zh) ∧ zIp zh w T E g g Wy R mk K X XM TS TA (zTB w T) ∧ zSgC zh x (vOf D) ∧ zSgM w s (vOf D) ∧ (∀ k j u, ¬ (k = 7 ∧ u = x ∧ 15 ≤ j ∧ j ≤ 19) → zgI zh k j u = zgI z k j u) ∧ (∀ k u i, zgA zh k u i = zgA z k u i) ∧ (∀ k u i, zgL zh k u i = zgL z k u i) ∧
      zSgO z zh w T E g Wy R mk K X XM TS TA b q x s (vOf D) (g2 D.2 2) (D.1 0) (g2 D.2 0) N (fX11_takeSegment N 0 q x z) (fX19_segment N 0 b (Int32.ofNat s) (D.1 0) w) := by
  obtain ⟨zh, a1, a2, a3, a4, a5, a6⟩ := zc_readHead (z := z) (x := x) (N := N)
  have ki : ∀ k j u, ¬ (k = 7 ∧ u = x ∧ 15 ≤ j ∧ j ≤ 19) → zgI zh k j u = zgI z k j u := fun k j u n => by rw [a2, if_neg n]
  have hph := zIp_hd (x := x) (Or.inr hx) ki a3 a4 a5 a6 hp
  have x0 : x ≠ 0 := by
    rcases hx with y | y
    · omega
    · have := (zX1 hp.1.1.2.2.2.2.1.2.2 x y).1; omega
  obtain ⟨s1, s2⟩ := zSgM_md hDm hD2 h10 hs
  obtain ⟨V1, V2⟩ := zSg_of (z' := zh) hxc hf hdl hDw h20 e2 ew hs s2 (fun j u => by
    rw [a2]
    by_cases c : u = x ∧ 15 ≤ j ∧ j ≤ 19
    · rw [if_pos ⟨rfl, c⟩, if_pos c]
    · rw [if_neg (fun y => c y.2), if_neg c]) (fun u i => a3 125 u i)
  refine ⟨zh, a1, hph, V1, V2, ki, a3, a4, ?_⟩
  obtain ⟨⟨p1, p2, p3, p4, p5, p8, p9, p10⟩, hR, hWo⟩ := id hph
  obtain ⟨hTC, hc, hEc, hEw, -⟩ := id p1
  have hbt : b < tb T := by rw [← hb]; exact (hc.2.2.2.2.2.1 q hq).1
  have b16 := hc.1
  obtain ⟨-, qi, qq⟩ := hc.2.2.2.2.2.1 q hq
  rw [hb] at qi qq
  have h1 := (hc.2.2.2.2.1 b hbt).2 hr
  have h0 : 0 < tp T b := by omega
  have q0 : tq T b 0 = q := by rw [← qq]; congr 1; omega
  have hdw : dw D ≤ 1480 := hDw.2.2.2.2.1
  have hbB : ∀ i, i < dw D → zgA z 125 x i = D.2 i := fun i hi => by
    have := hxc.2 i (by omega)
    rw [hf, Nat.zero_add] at this; exact this
  have G2 : ∀ i, i + 2 ≤ 20 → g2 (zgA zh 125 x) i = g2 D.2 i := fun i hi => g2_cgr ((a3 125 x i).trans (hbB i (by omega))) ((a3 125 x (i + 1)).trans (hbB (i + 1) (by omega)))
  have src0 : zgI zh 7 0 x = D.1 0 := (ki 7 0 x (by omega)).trans (hxc.1 0 (by omega) (by omega))
  have r80 : zgR z 8 0 q = some b := by
    have := (hp.1.1.1.2.2.2 q hq).1
    rw [hb] at this; exact this
  have hend : ∀ t, t < 6 → hEnd T (6 * b + t) ∧ (6 * b + t) / 6 = b := fun t ht => by
    have e6 : (6 * b + t) / 6 = b := by omega
    exact ⟨⟨by omega, by rw [e6]; exact hbt, by rw [e6]; exact hr⟩, e6⟩
  have VL : ∃ v : Nat, v ≤ 65535 ∧ vgL (vOf D) = Int32.ofNat v := g2_nat D.2 16
  have VW : ∃ v : Nat, v ≤ 65535 ∧ vgW (vOf D) = Int32.ofNat v := g2_nat D.2 14
  have hix := zIx_of p2 hd h10 hs
  have em : fX19_segment N 0 b (Int32.ofNat s) (D.1 0) w = fX19_segment_19 N N 0 b (Int32.ofNat s) (D.1 0) (g2 D.2 2) (g2 D.2 0) 0 w := by
    unfold fX19_segment
    have q1 : fX19_seg N 0 (Int32.ofNat s) 1 w = some (g2 D.2 2, w) := by
      have := zm_seg (w := w) (k := 1) (N := N) hs (by omega)
      rw [s2.2.1, e2] at this; exact this
    have q0 : fX19_seg N 0 (Int32.ofNat s) 0 w = some (g2 D.2 0, w) := by
      have := zm_seg (w := w) (k := 0) (N := N) hs (by omega)
      rw [s2.1, e2] at this; exact this
    rw [q1, zc_e, q0, zc_e]
  rw [em, zm_segLoop p2.1 hbt hr p8 (by omega)]
  unfold fX11_takeSegment
  rw [r80, zl_e, a1, zc_e]
  have gg2 : fX7_get2 N x 2 zh = some (g2 D.2 2, zh) := by
    rw [show (2 : Int32) = Int32.ofNat 2 from rfl, zc_get2 (by omega), G2 2 (by omega)]
  have gg0 : fX7_get2 N x 0 zh = some (g2 D.2 0, zh) := by
    rw [show (0 : Int32) = Int32.ofNat 0 from rfl, zc_get2 (by omega), G2 0 (by omega)]
  rw [gg2, zc_e, gg0, zc_e, zd_e, src0, zc_liveDoor hTC hbt hr (by omega), zc_e]
  -- a stranger's
  have stran : (∀ t, t < 6 → lvB zh b (g2 D.2 2) (D.1 0) (g2 D.2 0) t = false) → ∀ mm, mm = fX19_segment_244 N 0 b (Int32.ofNat s) (D.1 0) (g2 D.2 2) (g2 D.2 0) w → (fX11_takeSegment_143 N 0 q x none zh = some (0, zh) ∧ mm = some (0, w)) ∨ ((∀ t, t < 6 → lvB zh b (g2 D.2 2) (D.1 0) (g2 D.2 0) t = false) ∧ ∃ z1 z2 w' g' R', vgK (vOf D) 4 = false ∧ fX11_takeSegment_143 N 0 q x none zh = some (0, zsI z1 11 15 0 1) ∧ zgI z1 11 15 0 = 0 ∧ fX11_sendOff N 0 b 0 z1 = some (0, z2) ∧ mm = some (0, w') ∧ zIp z2 w' T E g' g' Wy R' (zupd mk b (mk b + 1)) K X XM TS TA (zTB w' T) ∧ (∀ c n v, R c n = some v → R' c n = some v) ∧ zGs T E Wy b (fun G => G = ((fun j => zgI z1 7 j 0, zgA z1 125 0) : Dg) ∨ G.1 2 = 0) g g' ∧ (zMdC z1 (vRst (vOf D)) ∧ zgI z1 7 0 0 = zad q ∧ zgI z1 7 1 0 = D.1 0 ∧ zgI z1 7 3 0 = zgA zh 113 b 2 ∧ g2 (zgA z1 125 0) 0 = g2 D.2 2 ∧ g2 (zgA z1 125 0) 2 = g2 D.2 0) ∧ zKd b zh z1 ∧ zFr mX11_sendOff z1 z2 ∧ zKe X z1 z2 ∧ zFr 0x129b7f200000000000000000000000008820884000000000000120000000000000000000000000000000180000000000000000000000803d0000001000000000000000000000000000002d0000000000000000000000000000000000000000000000000000000000000000000000000000000000000000000000000000000000000000000000000000000000000000000000000000000000000000000000000000000000000000000000000 w w' ∧ ∀ d D, d ∈ XM → zMD w T K d D → zMD w' T K d D) := by
    intro hlv mm hmm
    have lenB := zMB_len (⟨p2, hI⟩ : zMB w T E g K XM TS TA)
    unfold fX11_takeSegment_143
    rw [zo_0]
    rcases zp_stranger (N := N) hph hd hDm hD2 h10 (V := vOf D) (by unfold vOf; rw [e2, ew]) hX hq hb hr hm x0 V1 V2 (G2 2 (by omega)) (G2 0 (by omega)) src0 hTS (by omega) (by omega) with ⟨c1, c2, c3⟩ | ⟨z1, z2, w', g', R', c0, c1, c2, c3, c4, c5, c6, c7, c8, c9, c10, c11, c12, c13⟩
    · exact Or.inl ⟨by rw [c2, zc_e], hmm.trans c3⟩
    · have eT : zTB w' T = zTB w T := zTB_cg (fun j u hj => by rcases hj with rfl | rfl <;> exact zFr_gI c12 (by decide) (by decide) u)
      exact Or.inr ⟨hlv, z1, z2, w', g', R', c0, by rw [c1, zc_e], c2, c3, hmm.trans c4, by rw [eT]; exact c5, c6, c7, c8, c9, c10, c11, c12, c13⟩
  cases hlv : zfst (lvB zh b (g2 D.2 2) (D.1 0) (g2 D.2 0)) 6 0 with
  | some t =>
    obtain ⟨-, ht, hlt, -⟩ := zfst_some hlv
    have ht6 : t < 6 := by omega
    obtain ⟨he, he6⟩ := hend t ht6
    obtain ⟨v0, v1, v2, v3, v4⟩ := lvB_iff.mp hlt
    obtain ⟨bk, k1, k2⟩ := h44 (6 * b + t) he ((ki 2 0 _ (by omega)).symm.trans v0)
    obtain ⟨z', w', b1, b2, b3, b4, b5, b6⟩ := zp_atEnd (q := q) (N := N) hph hI he v0 v4 hn k1 k2 V1 V2 VW VL hix hl hN
    unfold zSgO
    refine Or.inl ⟨t, z', w', ht6, hlt, b1, b2, ?_, b2, b3, b4, b5, b6⟩
    show zo (some (6 * b + t)) _ _ = _
    rw [zo_e]; exact b1
  | none =>
    have hno : ∀ t, t < 6 → lvB zh b (g2 D.2 2) (D.1 0) (g2 D.2 0) t = false := fun t ht => zfst_none hlv t (by omega) (by omega)
    dsimp only [Option.map]
    rw [zo_0]
    have f15 : zgI zh 7 15 x = vgF (vOf D) := V1.1.1
    rw [f15]
    unfold zsgB
    rw [zm_hasf 1 V2, zc_e]
    by_cases c13 : vgF (vOf D) &&& (13 : Int32) = 1
    · rw [if_neg (fun y => y c13)]
      obtain ⟨k1, k4, k8⟩ := (zflag13 _).mp c13
      have K1 : vgK (vOf D) 1 = true := by unfold vgK; exact decide_eq_true k1
      have K4 : vgK (vOf D) 4 = false := by unfold vgK; exact decide_eq_false (fun y => y k4)
      have K8 : vgK (vOf D) 8 = false := by unfold vgK; exact decide_eq_false (fun y => y k8)
      rw [K1, if_neg (show ¬ zbi true = 0 by decide), zm_hasf 4 V2, zc_e, K4, if_neg (show ¬ ¬ zbi false = 0 by decide), zm_hasf 8 V2, zc_e, K8, if_neg (show ¬ ¬ zbi false = 0 by decide), zc_listenerAt hTC hbt hr (by omega), zc_e, zm_segLis p2.1 hbt hr p8 (by omega)]
      cases hls : zfst (lsB zh b (g2 D.2 2)) 6 0 with
      | none =>
        dsimp only
        rw [if_pos (show (-1 : Int32) < 0 by decide)]
        unfold zSgO
        exact Or.inr (Or.inr (stran hno _ rfl))
      | some l =>
        obtain ⟨-, hl6, hll, -⟩ := zfst_some hls
        have hl6 : l < 6 := by omega
        obtain ⟨heL, -⟩ := hend l hl6
        unfold lsB at hll
        simp only [Bool.and_eq_true, decide_eq_true_eq] at hll
        obtain ⟨m, m1, m2⟩ := hbl (6 * b + l) heL ((ki 2 0 _ (by omega)).symm.trans hll.1)
        have m2 : zgI zh 2 4 (6 * b + l) = Int32.ofNat m := (ki 2 4 _ (by omega)).trans m2
        dsimp only
        rw [if_neg (zo_nn (by omega)), zc_doorThrough hTC hbt hr hl6 m2 m1 (by omega), zc_e, zm_knock p2.1 hbt hr p8 hl6 hll.1 m2 m1 (by omega)]
        cases hth : thB zh b l with
        | none =>
          dsimp only [Option.map]
          rw [zo_0, zc_e]
          unfold zSgO
          exact Or.inr (Or.inr (Or.inl ⟨rfl, rfl⟩))
        | some t =>
          have hun : zfst (unB zh b) 6 0 = some t := by
            unfold thB at hth
            split at hth
            · exact hth
            · cases hth
          obtain ⟨-, ht, htu, -⟩ := zfst_some hun
          have ht6 : t < 6 := by omega
          have hfree : zgI zh 2 0 (6 * b + t) = 0 := of_decide_eq_true htu
          obtain ⟨he, he6⟩ := hend t ht6
          obtain ⟨t1, t2, t16, t17, t18⟩ := hTC.2.2.1.2 b hbt hr t ht6
          obtain ⟨-, u2⟩ := p2.1.2.2.1 b hbt hr t ht6
          dsimp only [Option.map]
          rw [zo_e]
          obtain ⟨zg, g1, gI, gA, gL, gQ, gR⟩ := zc_giveEnd zh (6 * b + t) N (g2 D.2 2) (D.1 0) (g2 D.2 0)
          rw [src0, g1, zc_e, zl_e, zl_e, zl_e]
          obtain ⟨zb, hzb⟩ : ∃ y, y = zsI zh 11 7 0 (zgI zh 11 7 0 + 1) := ⟨_, rfl⟩
          have hpb : zIp zb w T E g g Wy R mk K X XM TS TA (zTB w T) := zIp_kr (M := 0x8000000000000000000000000000000000000000000000000000000000000000000000000000000000000000000000000000000000000000000000000000000000000000000000000000000000000000000000000000000000) (by rw [hzb]; exact zFr_I (zFr_rf _ _) (by decide)) (by decide +kernel) (by decide) (by decide +kernel) (by decide) (fun j u => by rw [hzb, zgI_sI, if_neg (by omega)]) (fun k o i _ => by rw [hzb]; rfl) hph
          obtain ⟨z2, hz2⟩ : ∃ y, y = zsI (zsI (zsI zg 2 6 (6 * b + t) 1) 2 5 (6 * b + t) (Int32.ofNat l)) 11 7 0 (zgI (zsI (zsI zg 2 6 (6 * b + t) 1) 2 5 (6 * b + t) (Int32.ofNat l)) 11 7 0 + 1) := ⟨_, rfl⟩
          rw [← hz2]
          have e117 : zgI (zsI (zsI zg 2 6 (6 * b + t) 1) 2 5 (6 * b + t) (Int32.ofNat l)) 11 7 0 = zgI zh 11 7 0 := by
            rw [zgI_sI, if_neg (by omega), zgI_sI, if_neg (by omega), gI, if_neg (by omega)]
          have I2 : ∀ k j u, zgI z2 k j u = if k = 11 ∧ j = 7 ∧ u = 0 then zgI zh 11 7 0 + 1 else if k = 2 ∧ j = 5 ∧ u = 6 * b + t then Int32.ofNat l else if k = 2 ∧ j = 6 ∧ u = 6 * b + t then 1 else zgI zg k j u := fun k j u => by rw [hz2, e117]; simp only [zgI_sI]
          have J2 : ∀ j, ¬ (j = 5 ∨ j = 6) → j ≤ 11 → ¬ j = 4 → zgI z2 2 j (6 * b + t) = (if j = 0 then 2 else if j = 1 then g2 D.2 2 else if j = 2 then D.1 0 else if j = 3 then g2 D.2 0 else if j = 5 then -1 else if j = 9 then 1 else 0) := fun j hj hj2 hj3 => by
            rw [I2, if_neg (by omega), if_neg (by omega), if_neg (by omega), gI, if_pos ⟨rfl, rfl, hj2, hj3⟩]
          have yI : ∀ k j u, ¬ (k = 2 ∧ u = 6 * b + t) → zgI z2 k j u = zgI zb k j u := fun k j u n => by
            rw [I2, hzb, zgI_sI]
            by_cases c : k = 11 ∧ j = 7 ∧ u = 0
            · rw [if_pos c, if_pos c]
            · rw [if_neg c, if_neg c, if_neg (by omega), if_neg (by omega), gI, if_neg (by omega)]
          obtain ⟨z3, w2, w3, bk, n1, n2, n3, n4, n5, n6, ⟨n7, n71, n72, n73, n74⟩, n8, ⟨n91, n92, n93, n94⟩, n10⟩ := zp_newEnd (z := zb) (z2 := z2) (e := 6 * b + t) (b := b) (N := N) (own := g2 D.2 2) (x := D.1 0) (q := g2 D.2 0) (l := Int32.ofNat l) (c := 1) (M := zgI zh 11 7 0 + 1) hpb hI he he6 h0 (by rw [hzb, zgI_sI, if_neg (by omega)]; exact hfree) u2 hl (by omega) (J2 0 (by omega) (by omega) (by omega)) (J2 1 (by omega) (by omega) (by omega)) (J2 2 (by omega) (by omega) (by omega)) (J2 3 (by omega) (by omega) (by omega)) (by rw [I2, if_neg (by omega), if_pos ⟨rfl, rfl, rfl⟩]) (by rw [I2, if_neg (by omega), if_neg (by omega), if_pos ⟨rfl, rfl, rfl⟩]) (J2 7 (by omega) (by omega) (by omega)) (J2 8 (by omega) (by omega) (by omega)) (J2 9 (by omega) (by omega) (by omega)) yI (fun k u i => by rw [hz2, hzb]; exact gA k u i) (fun k u i => by rw [hz2, hzb]; exact gL k u i) (fun k u i => by rw [hz2, hzb]; exact gQ k u i) (fun k u i => by rw [hz2, hzb]; exact gR k u i)
          have R2 : ∀ k u i, zgR z2 k u i = zgR zh k u i := fun k u i => by rw [hz2]; exact gR k u i
          have x3 : ∀ j, zgI z3 7 j x = zgI zh 7 j x := fun j => by rw [n7.1 7 j x (by omega), yI 7 j x (by omega), hzb, zgI_sI, if_neg (by omega)]
          have V3 : zSgC z3 x (vOf D) := zSgC_cg x3 (fun i => by
            rw [n7.2.1 125 x i (by omega), hz2]
            exact gA 125 x i) V1
          have W3 : zSgM w3 s (vOf D) := zSgM_cg (fun i => n91.2 174 0 i (by omega) (by omega)) (fun i => n92 175 0 i) V2
          have hix3 : zIx (msg w3 s 8) 2592 := by
            have : msg w3 s 8 = msg w s 8 := n91.2 174 0 _ (by omega) (by omega)
            rw [this]; exact hix
          have R3 : ∀ k u i, zgR z3 k u i = zgR zh k u i := fun k u i => (n7.2.2.2.2 k u i).trans (R2 k u i)
          obtain ⟨z', w', o1, o2, o3, o4, o5, o6⟩ := zp_listening (N := N) ((R3 3 16 _).trans t16) ((R3 3 17 _).trans t17) V3 W3 VW VL (⟨n4.1.2.1, n5⟩ : zMB w3 T E g K XM TS TA) he hix3 hl n71 n6
          have u3 : zgI z3 2 0 (6 * b + t) = 2 := (n7.1 2 0 _ (by omega)).trans (J2 0 (by omega) (by omega) (by omega))
          have rd3 : zRd z3 w3 (6 * b + t) := n4.1.2.2.2.2.2.1 b t hbt hr ht6
          have hp' : zIp z' w' T E g g Wy R mk K X XM TS TA (zTB w' T) := zIp_ends (b := 0) n4 (zEk_c o5) (fun c => o5.2.1 113 c 2 (by omega)) (zBz_e o6) o4.1 (fun _ => zRd_of rd3 u3 (fun j => o5.1 2 j _ (by omega)) (fun j => o6.1 13 j _ (by omega) (by omega)) (fun j hj => o6.1 14 j _ (by omega) (by omega)) o3)
          unfold zSgO
          refine Or.inr (Or.inl ⟨t, l, z2, z3, w3, bk, z', w', ht6, hl6, hfree, hll.1, hll.2, ⟨K1, K4, K8⟩, hno, ?_, ?_, ?_, ?_, ?_, ⟨J2 0 (by omega) (by omega) (by omega), J2 1 (by omega) (by omega) (by omega), J2 2 (by omega) (by omega) (by omega), J2 3 (by omega) (by omega) (by omega), J2 8 (by omega) (by omega) (by omega), J2 10 (by omega) (by omega) (by omega), J2 11 (by omega) (by omega) (by omega)⟩, ⟨⟨_, _, n2⟩, n7, n6, n71, n72, n73, n74⟩, n8, ⟨n91, n92, n94, by
            rw [n1, zgI_sI, if_neg (by omega), zgI_sI, if_neg (by omega), zgI_sI, if_neg (by omega), zgI_sI, if_neg (by omega)]
            exact zFr_gI (wX19_giveEnd (Nat.and_self _) (zFr_rf _ _) _ _ n3) (by decide) (by decide) 0, n10⟩, o1, o2, ?_, ?_, n4, hp', o4.2, o5, o6⟩)
          · intro k j u k1 k2
            rw [yI k j u k1, hzb, zgI_sI, if_neg k2]
          · rw [I2, if_pos ⟨rfl, rfl, rfl⟩]
          · intro k u i
            rw [hz2]; exact gA k u i
          · intro k u i
            rw [hz2]; exact gL k u i
          · intro k u i
            rw [hz2]; exact gQ k u i
          · have e4 : zgI z2 11 4 0 = Int32.ofNat (eN E) := by rw [yI 11 4 0 (by omega), hzb, zgI_sI, if_neg (by omega)]; exact hEc.1
            have e10 : zgI z2 1 0 b = Int32.ofNat b := by rw [yI 1 0 b (by omega), hzb, zgI_sI, if_neg (by omega)]; exact (hTC.2.1.2 b hbt).2.1
            have e51 : zgI z2 5 1 (q / 8) = Int32.ofNat (eL E (q / 8)) := by rw [yI 5 1 _ (by omega), hzb, zgI_sI, if_neg (by omega)]; exact (hEc.2 _ hq.1).1
            have e7 : zgI z2 11 7 0 = zgI zh 11 7 0 + 1 := by rw [I2, if_pos ⟨rfl, rfl, rfl⟩]
            rw [(R2 2 12 _).trans t2, zl_e]
            unfold fX11_firstNumber
            rw [e4, e10, zc_e, (R2 8 1 q).trans (hTC.2.2.2 q hq).2.1, zl_e, zd_e, zd_e, e51, e7]
            rw [q0] at n2
            rw [n2, zc_e]
            unfold fX11_takeSegment_143
            rw [zo_e, (R3 2 12 _).trans t2, zl_e, zd_e, if_neg (fun y => y n71), zl_e, zd_e, o1, zc_e]
          · unfold zknK
            rw [n3, zc_e, zl_e, zl_e]
            have r13 : ∀ u : St, (∀ k o i, zgR u k o i = zgR w3 k o i) → zgR u 13 4 (6 * b + t) = some (6 * b + t) := fun u hu => (hu 13 4 _).trans ((n93 13 4 _).trans u2)
            rw [r13 _ (fun k o i => by rw [n1]; first | done | rfl), zl_e, zd_e, zl_e, r13 _ (fun k o i => by rw [n1]; first | done | rfl), zl_e, zd_e, zl_e, r13 _ (fun k o i => by rw [n1]; first | done | rfl), zl_e, zd_e, ← n1]
            unfold fX19_arrives
            have s0 : zgI w3 14 0 (6 * b + t) = 1 := n6.1.1.1.symm.trans n71
            rw [s0, if_neg (fun y => y rfl), o2, zc_e, zc_e, zc_e]
    · rw [if_pos c13]
      have hm2 : (if zbi (vgK (vOf D) 1) = 0 then fX19_segment_244 N 0 b (Int32.ofNat s) (D.1 0) (g2 D.2 2) (g2 D.2 0) w else zc (fX19_has N 0 (Int32.ofNat s) 4 w) fun r7 z8 => if ¬ r7 = 0 then fX19_segment_244 N 0 b (Int32.ofNat s) (D.1 0) (g2 D.2 2) (g2 D.2 0) z8 else zc (fX19_has N 0 (Int32.ofNat s) 8 z8) fun r12 z13 => if ¬ r12 = 0 then fX19_segment_244 N 0 b (Int32.ofNat s) (D.1 0) (g2 D.2 2) (g2 D.2 0) z13 else fX19_segment_189 N N 0 b (Int32.ofNat s) (D.1 0) (g2 D.2 2) (g2 D.2 0) 0 z13) = fX19_segment_244 N 0 b (Int32.ofNat s) (D.1 0) (g2 D.2 2) (g2 D.2 0) w := by
        cases K1 : vgK (vOf D) 1 with
        | false => rw [if_pos (show zbi false = 0 from rfl)]
        | true =>
          rw [if_neg (show ¬ zbi true = 0 by decide), zm_hasf 4 V2, zc_e]
          cases K4 : vgK (vOf D) 4 with
          | true => rw [if_pos (show ¬ zbi true = 0 by decide)]
          | false =>
            rw [if_neg (show ¬ ¬ zbi false = 0 by decide), zm_hasf 8 V2, zc_e]
            cases K8 : vgK (vOf D) 8 with
            | true => rw [if_pos (show ¬ zbi true = 0 by decide)]
            | false =>
              refine absurd ((zflag13 _).mpr ⟨?_, ?_, ?_⟩) c13
              · unfold vgK at K1; exact of_decide_eq_true K1
              · unfold vgK at K4; have := of_decide_eq_false K4; exact Classical.not_not.mp this
              · unfold vgK at K8; have := of_decide_eq_false K8; exact Classical.not_not.mp this
      unfold zSgO
      exact Or.inr (Or.inr (stran hno _ hm2))
