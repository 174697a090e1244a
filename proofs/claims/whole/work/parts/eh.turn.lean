/-! a door's whole turn: both sides -/
theorem zMsr_top {z w : St} {e : Nat} (h : zRo z w e) : zMsr z e ≤ 2054 := by
  obtain ⟨-, o, n, W, st, ⟨-, -, -, -, -, -, -, -, hW⟩, ⟨-, -, h2, -⟩, -⟩ := h
  have b : ∀ x, zb1 x ≤ 1 := fun x => by unfold zb1; split <;> omega
  have c : (zgI z 6 2 e).toNatClampNeg ≤ 2048 := by rw [h2, zoC (by omega)]; exact hW
  have i : (if zgI z 6 9 e = 0 then 1 else 0) ≤ 1 := by split <;> omega
  have b5 := b (zgI z 3 5 e)
  have b9 := b (zgI z 3 9 e)
  have b11 := b (zgI z 3 11 e)
  have b12 := b (zgI z 3 12 e)
  have b13 := b (zgI z 3 13 e)
  unfold zMsr
  generalize (zgI z 6 2 e).toNatClampNeg = A at c ⊢
  omega
theorem zSafe_cg {z z' w w' : St} {e : Nat} (c : zLqC z z') (m : zLqM w w') (h45 : zgI w' 14 45 e = zgI w 14 45 e) (h10 : zgI z' 2 10 e = zgI z 2 10 e) (h11 : zgI z' 2 11 e = zgI z 2 11 e) (h : zSafe z w e) : zSafe z' w' e := by
  obtain ⟨n, b, p, R, ⟨s1, s2, s3, s4, s5, s6⟩, ht, hp, s9, s10, s11, s12⟩ := h
  obtain ⟨c1, c2, c3, c4, c5, c6⟩ := c
  obtain ⟨m1, m2, m3, m4, -⟩ := m
  have S : ∀ k, lgS z' (zgI z 3 15 e) k = lgS z (zgI z 3 15 e) k := fun k => lgS_cg k (fun i _ => ⟨c5 143 0 i (by omega), c5 144 0 i (by omega), c6 0 i⟩)
  refine ⟨n, b, p, R, ⟨s1, s2, c4.trans s3, h45.trans s4, (c2 e).trans s5, s6⟩, ?_, ?_, by rw [c1, S]; exact s9, by rw [c1, S]; exact s10, by rw [c1, S]; exact s11, by rw [c3, m2]; exact s12⟩
  · unfold zTie
    rw [c1, S, m4]
    refine ⟨ht.1, fun p' q1 q2 => ?_⟩
    rw [ht.2 p' q1 q2]
    congr 1
    unfold bkB; rw [m3]
  · obtain ⟨y1, x, y, y2, y3⟩ := hp
    refine ⟨(m1 e).trans y1, x, y, ?_, ?_⟩
    · rw [c1]; exact zPt_cg h10 h11 (fun k i hk => c5 k 0 i hk) y2
    · rw [c1, ← y3]; exact lgP_cg (fun k i hk => c5 k 0 i hk) (fun i => c6 0 i)
/-- a door's turn: rings, sends, settles -/
def zTn (T : Tp) (E : Ev) (Wy : Wyt) (b e n N : Nat) (z w : St) (g : Sg) (z' w' : St) (g' : Sg) (mk mk' : Nat → Nat) : Prop := ∃ z1 w1 z2 w2 g2, fX3_ring N e (Int32.ofNat n) z = some (0, z1) ∧ zEc1 e z z1 ∧ zEm1 e w w1 ∧ zEe z1 w1 e ∧ zSeq T E Wy b e n N z1 w1 g z2 w2 g2 ∧ fX11_settle N 0 e z2 = some (0, z') ∧ zDEn e z2 z' w2 w' ∧ (g' = g2 ∨ g' = sS g2 n) ∧ mk b ≤ mk' b ∧ mk' b + zMsr z2 e ≤ mk b + zMsr z1 e
theorem zp_turnDoor {z w : St} {T : Tp} {E : Ev} {g : Sg} {Wy : Wyt} {R : Rg} {mk : Nat → Nat} {K : Int32 → Int32 → Int32 → Prop} {TA : List Nat} {b e bk n N : Nat} {i : Int32} {K2 : Nat → Nat → Int32 → St → Option (Int32 × St)} (hp : zIp z w T E g g Wy R mk K [] [] [] TA (zTB w T)) (hI : ∀ u, hEnd T u → zIx (zgI w 14 44 u) 2592 ∧ zIx (zgI w 14 45 u) 2592) (he : hEnd T e) (hbe : e / 6 = b) (h0 : 0 < tp T b) (hn : n ≤ 400000) (hTA : TA.length ≤ 3900) (hmk : mk b + 2054 < 2147483646) (hH : zHe z w K e bk n) (r134 : zgR w 13 4 e = some e) (hS : ¬ zgI z 2 8 e = 0 → ¬ zgI z 4 3 e ≤ 0 → zSafe z w e) (hN : 3000 < N) :
    ∃ z' w' g' R' mk', (zl (zgR z 2 12 e) fun y6 => zd y6 fun a7 => zc (fX3_ring N a7 (zgI z 11 4 0) z) fun _ z9 => fX11_doHost_44 N K2 N 0 b i e a7 (0 : Int32) z9) = fX11_doHost_97 N K2 0 b i z' ∧ fX19_doorTurn N 0 b e w = some (0, w') ∧ zIp z' w' T E g' g' Wy R' mk' K [] [] [] TA (zTB w' T) ∧ (∀ u, hEnd T u → zIx (zgI w' 14 44 u) 2592 ∧ zIx (zgI w' 14 45 u) 2592) ∧ (∀ c n v, R c n = some v → R' c n = some v) ∧ (∀ c, ¬ c = b → mk' c = mk c) ∧ zTn T E Wy b e n N z w g z' w' g' mk mk' := by
  obtain ⟨u0, ⟨r12, r16, r17, r18⟩, -, ⟨tc, tm⟩, -⟩ := id hH
  obtain ⟨he1, he2, he3⟩ := id he
  obtain ⟨⟨p1, p2, p3, p4, p5, p8, p9, p10⟩, hR, hW⟩ := id hp
  have hRd : zRd z w e := by
    have := p8 (e / 6) (e % 6) he2 he3 (by omega)
    rw [show 6 * (e / 6) + e % 6 = e from by omega] at this
    exact this
  have hE := zRd_E hRd u0
  have h133 : zgI w 13 3 e = 1 := by
    rcases hRd.2 with y | y | y
    · rw [y.1] at u0; exact absurd u0 (by decide)
    · rw [y.1] at u0; exact absurd u0 (by decide)
    · exact y.2.2.1
  obtain ⟨z1, w1, a1, a2, a3, a4, a5⟩ := zp_ring (b := b) (x2 := e) (N := N) hn tm r16 r18 hE
  have f1 := wX3_ring (Nat.and_self _) (zFr_rf _ _) _ _ a1
  have lk : zLk z z1 w w1 := zLk_one a4 (zFr_gI f1 (by decide) (by decide) e) a5
  have lqc : zLqC z z1 := zLqC_fr f1 (by decide)
  have M1 := zMB_em (⟨p2, hI⟩ : zMB w T E g K [] [] TA) a5
  have P1 : zIp z1 w1 T E g g Wy R mk K [] [] [] TA (zTB w1 T) := zIp_dk hp (zDk_c a4) (zDm_e a5) M1.1 (fun _ => zRd_of hRd u0 (fun j => a4.1 2 j e (by omega)) (fun j => a5.1 13 j e (by omega)) (fun j hj => a5.1 14 j e (by omega)) a3)
  have top := zMsr_top a3.2.1
  obtain ⟨z2, w2, g2, R2, mk2, b1, b2, b3, ⟨b4, b41, b42⟩, b43, b5, b6, b7, b8⟩ := zp_sends (N := N) (K2 := K2) (i := i) (x2 := e) he hbe h0 hn (by omega) hTA 2054 z1 w1 g R mk 0 N N top (by omega) (by omega) (by omega) hmk P1 M1.2 (zHe_lk lk hH)
  have H2 := zHe_lk b4 (zHe_lk lk hH)
  have r2 : zgR w2 13 4 e = some e := (b42.2.2.2.2 e).trans ((a5.2.2.2.2 13 4 e).trans r134)
  obtain ⟨z', w', g', c1, c2, c3, c4, c5, c6⟩ := zp_doorEnd (N := N) b3 b43 he hn H2 r2 (fun q8 q4 => by
    have e8 : zgI z2 2 8 e = zgI z 2 8 e := (b4.1 8 e (by omega)).trans (lk.1 8 e (by omega))
    have e4 : zgI z2 4 3 e = zgI z 4 3 e := (b41.2.1 e).trans (lqc.2.1 e)
    rw [e8] at q8
    rw [e4] at q4
    exact zSafe_cg (zLqC_tr lqc b41) (zLqM_tr (zLqM_one a5) b42) ((b4.2.2.2.2.1 45 e (by omega)).trans (lk.2.2.2.2.1 45 e (by omega))) ((b4.1 10 e (by omega)).trans (lk.1 10 e (by omega))) ((b4.1 11 e (by omega)).trans (lk.1 11 e (by omega))) (hS q8 q4)) hN
  refine ⟨z', w', g', R2, mk2, ?_, ?_, c3, c4, b5, b6, z1, w1, z2, w2, g2, a1, a4, a5, a3, b8, c1, c6, c5, b7⟩
  · rw [r12, zl_e, zd_e, tc, a1, zc_e]
    refine Eq.trans b1 ?_
    unfold fX11_doHost_92
    rw [c1, zc_e]
  · unfold fX19_doorTurn
    rw [if_pos (show ¬ zgI w 13 3 e = 0 by rw [h133]; decide), r134, zl_e, zd_e, a2]
    unfold fX19_doorTurn_68
    rw [b2, c2]
