/-! a segment came: all of the world -/
/-- books of doors -/
def zB44 (z w : St) (T : Tp) : Prop := (∀ u, hEnd T u → zIx (zgI w 14 44 u) 2592 ∧ zIx (zgI w 14 45 u) 2592) ∧ ∀ e, hEnd T e → zgI z 2 0 e = 2 → ∃ bk, bk < 2592 ∧ zgI w 14 44 e = Int32.ofNat bk ∧ 0 < tp T (e / 6)
theorem zB44_a {z z' w w' : St} {T : Tp} (qc : zAgr 0x100000000000000000000000000000000 z z') (qm : zAgr 0x30000000000000000000000000000000000000000000000000000000000000000000000000000000000000000000000000000000000000000000000000000000000000000000000000000000000000000000000000000000000000000000000000000000000000000000000000000000000000000000 w w') (h : zB44 z w T) : zB44 z' w' T := by
  have q44 : ∀ e, zgI w' 14 44 e = zgI w 14 44 e := fun e => qm.1 14 44 e (by decide) (by decide) (by decide)
  have q45 : ∀ e, zgI w' 14 45 e = zgI w 14 45 e := fun e => qm.1 14 45 e (by decide) (by decide) (by decide)
  refine ⟨fun u hu => by rw [q44, q45]; exact h.1 u hu, fun e he q => ?_⟩
  rw [q44]
  exact h.2 e he ((qc.1 2 0 e (by decide) (by decide) (by decide)).symm.trans q)
def mZsg : Nat := mX19_arrives ||| (mX14_begin ||| (mX19_dropBook ||| 0x40000000000000000000000000000000000000000000000000000000000000000000000000000000000000000000000000000000020000000000300000000000000000000000000000000000000000000000000000000000000000000000000000000000000000000000000000000000000000000000000000000000000000000000000000000000000000000000000000000000000000000000000000000000000000000000000000000))
theorem wzsgA {N e : Nat} {s : Int32} {w : St} : zPw mZsg w (zsgA N e s w) := by
  unfold zsgA
  have c : ∀ {b k : Nat}, ∀ {f : Nat}, True := fun {_ _ _} => trivial
  refine zw_c (wX19_arrives (by decide) (zFr_rf _ _)) fun r z1 h1 => zw_i (zw_s h1) (zw_c (wX14_begin (by decide) h1) fun _ z2 h2 => zw_k (zw_lA h2 (by decide) fun z3 h3 => zw_c (wX19_dropBook (by decide) h3) fun _ z4 h4 => zw_lI h4 (by decide) fun z5 h5 => zw_lI h5 (by decide) fun z6 h6 => zw_lI h6 (by decide) fun z7 h7 => zw_s h7))
theorem zMD_be {w w' : St} {T : Tp} {K : Int32 → Int32 → Int32 → Prop} {e d : Nat} {D : Dg} (h : zBe e w w') (hD : zMD w T K d D) : zMD w' T K d D := zMD_cg hD.1.1 (fun k _ => h.2.1 172 0 _ (by omega) (by omega)) (fun k i => h.2.1 174 k i (by omega) (by omega)) (fun k i => h.2.2.1 175 k i (by omega)) (fun k i => h.2.1 178 k i (by omega) (by omega)) rfl (fun _ _ => rfl) hD
theorem zTA_be {w w' : St} {T : Tp} {e : Nat} (h : zBe e w w') : zTA w' T = zTA w T := zTA_cg (fun c k _ _ => h.2.1 150 c k (by omega) (by omega))
def mW0 : Nat := mRC ||| (mPpC ||| mMsC)
def mW0m : Nat := mRM ||| (mPpM ||| mMsM)
theorem zAgr_le {M M' : Nat} {z z' : St} (h : zAgr M z z') (hm : M' &&& M = M') : zAgr M' z z' := by
  have t : ∀ i, M'.testBit i = true → M.testBit i = true := fun i c => by
    have := congrArg (fun x : Nat => x.testBit i) hm
    simp only [Nat.testBit_and, c, Bool.true_and] at this
    exact this
  exact ⟨fun k j o a b c => h.1 k j o a b (t _ c), fun k o i c => h.2 k o i (t _ c)⟩
/-- what a segment did: at a door with an end / at a new one / nothing / a stranger's reset -/
def zSgF (z zh w : St) (T : Tp) (E : Ev) (g : Sg) (Wy : Wyt) (b q u s : Nat) (V : Sv) (own src oth : Int32) (N : Nat) (z' w' : St) (g' : Sg) : Prop :=
  (∃ d, d < 6 ∧ lvB zh b own src oth d = true ∧ fX11_takeSegment_143 N 0 q u (some (6 * b + d)) zh = some (0, z') ∧ zsgA N (6 * b + d) (Int32.ofNat s) w = some (0, w') ∧ zEc1 (6 * b + d) zh z' ∧ zBe (6 * b + d) w w' ∧ g' = g) ∨
  (∃ d l z2 z3 w3 bk, d < 6 ∧ l < 6 ∧ zgI zh 2 0 (6 * b + d) = 0 ∧ zgI zh 2 0 (6 * b + l) = 1 ∧ zgI zh 2 1 (6 * b + l) = own ∧ (vgK V 1 = true ∧ vgK V 4 = false ∧ vgK V 8 = false) ∧ (∀ t, t < 6 → lvB zh b own src oth t = false) ∧
    (∀ k j u, ¬ (k = 2 ∧ u = 6 * b + d) → ¬ (k = 11 ∧ j = 7 ∧ u = 0) → zgI z2 k j u = zgI zh k j u) ∧ zgI z2 11 7 0 = zgI zh 11 7 0 + 1 ∧ (∀ k u i, zgA z2 k u i = zgA zh k u i) ∧ (∀ k u i, zgL z2 k u i = zgL zh k u i) ∧
    (zgI z2 2 0 (6 * b + d) = 2 ∧ zgI z2 2 1 (6 * b + d) = own ∧ zgI z2 2 2 (6 * b + d) = src ∧ zgI z2 2 3 (6 * b + d) = oth ∧ zgI z2 2 8 (6 * b + d) = 0 ∧ zgI z2 2 10 (6 * b + d) = 0 ∧ zgI z2 2 11 (6 * b + d) = 0) ∧
    ((∃ L M, fX3_begin N (6 * b + d) ((64000 : Int32) * Int32.ofNat (eN E) + (977 : Int32) * Int32.ofNat b) L M z2 = some (0, z3)) ∧ zEc1 (6 * b + d) z2 z3 ∧ zEe z3 w3 (6 * b + d) ∧ zgI z3 3 0 (6 * b + d) = 1 ∧ zgI z3 3 14 (6 * b + d) = zgI zh 11 7 0 + 1 ∧ zgI z3 3 15 (6 * b + d) = 0 ∧ zgI z3 6 4 (6 * b + d) = (64000 : Int32) * Int32.ofNat (eN E) + (977 : Int32) * Int32.ofNat b) ∧
    (bk < 2592 ∧ zgI w3 14 44 (6 * b + d) = Int32.ofNat bk ∧ zgI w3 14 45 (6 * b + d) = -1 ∧ zgI w3 14 46 (6 * b + d) = 0 ∧ zgI w3 14 17 (6 * b + d) = 0 ∧ zgA w3 182 0 bk = 0 ∧ zgA w3 184 0 bk = zgA w 184 0 bk + 1 ∧ ∀ c, ¬ c = bk → zgA w3 182 0 c = zgA w 182 0 c ∧ zgA w3 184 0 c = zgA w 184 0 c) ∧
    (zDm (6 * b + d) w w3 ∧ (∀ k u i, zgL w3 k u i = zgL w k u i) ∧ (∀ k u i, zgQ w3 k u i = zgQ w k u i) ∧ zgI w3 19 26 0 = zgI w 19 26 0 ∧ ∃ Rb : List Nat, (zTB w T).Perm (bk2 w (6 * b + d) ++ Rb) ∧ bk ∉ Rb ∧ (zTB w3 T).Perm (bk :: Rb)) ∧
    fX3_takeListening N (6 * b + d) u z3 = some (0, z') ∧ fX19_arriveListening N 0 (6 * b + d) (Int32.ofNat s) w3 = some (0, w') ∧ zEc1 (6 * b + d) z3 z' ∧ zBe (6 * b + d) w3 w' ∧ g' = g) ∨
  (z' = zh ∧ w' = w ∧ g' = g) ∨
  ((∀ t, t < 6 → lvB zh b own src oth t = false) ∧ ∃ za, vgK V 4 = false ∧ zgI za 11 15 0 = 0 ∧ fX11_sendOff N 0 b 0 za = some (0, z') ∧ zGs T E Wy b (fun G => G = ((fun j => zgI za 7 j 0, zgA za 125 0) : Dg) ∨ G.1 2 = 0) g g' ∧ (zMdC za (vRst V) ∧ zgI za 7 0 0 = zad q ∧ zgI za 7 1 0 = src ∧ zgI za 7 3 0 = zgA zh 113 b 2 ∧ g2 (zgA za 125 0) 0 = own ∧ g2 (zgA za 125 0) 2 = oth) ∧ zKd b zh za ∧ zFr mX11_sendOff za z' ∧ zFr 0x129b7f200000000000000000000000008820884000000000000120000000000000000000000000000000180000000000000000000000803d0000001000000000000000000000000000002d0000000000000000000000000000000000000000000000000000000000000000000000000000000000000000000000000000000000000000000000000000000000000000000000000000000000000000000000000000000000000000000000000 w w')
/-- doors that have an end still have one -/
theorem zUd_begin {N e : Nat} {F L M : Int32} {z0 z : St} (h : zUd z0 z) : zHq (zUd z0) (fX3_begin N e F L M z) := by
  unfold fX3_begin
  exact zHq_l (zHq_l (zHq_l (zHq_l (zHq_l (zHq_c (zUd_beginAgain (zUd_I (zUd_I (zUd_I (zUd_I (zUd_I h (by omega)) (by omega)) (by omega)) (by omega)) (by omega))) fun _ _ _ h7 => zHq_s h7)))))
theorem zp_segW {z1 w1 zh : St} {T : Tp} {E : Ev} {g : Sg} {Wy : Wyt} {R : Rg} {mk tl Nm od : Nat → Nat} {S : Nat → Rs} {Lp : Nat → List Pe} {K : Int32 → Int32 → Int32 → Prop} {X XM : List Nat} {b q u s N : Nat} {V : Sv} {own src oth : Int32} {cm mm : Option (Int32 × St)} (hB : zB44 z1 w1 T) (hA : zWa z1 w1 T E tl Nm Wy S) (hP : zWp z1 w1 T E R Lp od) (hM : zMs z1 w1 T) (hb : b < tb T) (hr : tr T b = false) (h0 : 0 < tp T b) (h15 : zgI z1 11 15 0 = 0) (hh : fX7_readHead N u z1 = some (0, zh)) (hhI : ∀ k j o, ¬ (k = 7 ∧ o = u ∧ 15 ≤ j ∧ j ≤ 19) → zgI zh k j o = zgI z1 k j o) (hPh : zIp zh w1 T E g g Wy R mk K X XM [] (zTA w1 T) (zTB w1 T)) (ho : zSgO z1 zh w1 T E g Wy R mk K X XM [] (zTA w1 T) b q u s V own src oth N cm mm) :
    ∃ z2 z' w' g' R' mk', cm = some (0, z2) ∧ mm = some (0, w') ∧ ((zgI z2 11 15 0 = 0 ∧ z' = z2) ∨ (¬ zgI z2 11 15 0 = 0 ∧ fX11_sendOff N 0 b 0 (zsI z2 11 15 0 0) = some (0, z'))) ∧ zIp z' w' T E g' g' Wy R' mk' K X XM [] (zTA w' T) (zTB w' T) ∧ zB44 z' w' T ∧ zWa z' w' T E tl Nm Wy S ∧ zWp z' w' T E R' Lp od ∧ zMs z' w' T ∧ (∀ c n v, R c n = some v → R' c n = some v) ∧ (mk' = mk ∨ mk' = zupd mk b (mk b + 1)) ∧ zUd z1 z' ∧ zGs T E Wy b (fun G => G.1 2 = 1 ∨ G.1 2 = 0) g g' ∧ (∀ v, v ∈ X → (∀ j, j < 15 → zgI z' 7 j v = zgI z1 7 j v) ∧ ∀ i, zgA z' 125 v i = zgA z1 125 v i) ∧ (∀ d D, d ∈ XM → zMD w1 T K d D → zMD w' T K d D) ∧ zAgr 0x20000000000000000000000000000000000000000000000000000000000000000000000000000000000000000000000000000000000000000000000000000000000000000000000000000000000000000000000000000000000000000000000000000000000000000000000000000000000000000000000000000000000000000000000000000000000000000000000000 w1 w' ∧ zSgF z1 zh w1 T E g Wy b q u s V own src oth N z' w' g' := by
  have hc := hPh.1.1.2.1
  have f0 : zFr mX7_readHead z1 zh := wX7_readHead (Nat.and_self _) (zFr_rf _ _) _ _ hh
  have a0 : zAgr (mW0 ||| 0x100000000000000000000000000000000) z1 zh := zAgr_fr f0 (by decide)
  have k0 : ∀ v, (∀ j, j < 15 → zgI zh 7 j v = zgI z1 7 j v) ∧ ∀ i, zgA zh 125 v i = zgA z1 125 v i := fun v => ⟨fun j hj => hhI 7 j v (by omega), fun i => zFr_gA f0 (by decide) v i⟩
  have u0 : zUd z1 zh := zUd_fr (zUd_rf z1) f0 (by decide)
  unfold zSgO at ho
  rcases ho with ⟨d, z', w', hd6, hlv, e1, e2, c1, c2, p', i', ec, be⟩ | ⟨d, l, z2, z3, w3, bk, z', w', hd6, hl6, hfree, hl1, hl2, hK, hno, I2, e117, A2, L2, Q2, ⟨d0, d1, d2, d3, d8, d10, d11⟩, ⟨⟨Lx, Mx, bg⟩, ec3, ee3, s3, m3, m15, F3⟩, ⟨bk1, bk2, bk3, bk4, bk5, bk6, bk7, bk8⟩, ⟨dm, mL, mQ, zm26, Rb, rb1, rb2, rb3⟩, o1, o2, c1, c2, p3, p', i', ec, be⟩ | ⟨c1, c2⟩ | ⟨hno, za, z2, w', g', R', hK, c1, h150, c3, c4, p', mono, gs, md, kd, fs, ke, fm, hD⟩
  · -- at a door
    have he : hEnd T (6 * b + d) := by
      have := hc.1
      exact ⟨by omega, by rw [show (6 * b + d) / 6 = b by omega]; exact hb, by rw [show (6 * b + d) / 6 = b by omega]; exact hr⟩
    have ac : zAgr (mW0 ||| 0x100000000000000000000000000000000) z1 z' := zAgr_tr a0 (zAgr_ec ec (by decide) (by decide) (by decide) (by decide) (by decide))
    have am : zAgr (mW0m ||| 0x20000000000000000000000000000000000000000000000000000000000000000000000000000000000000000000000000000000000000000000000000000000000000000000000000000000000000000000000000000000000000000000000000000000000000000000000000000000000000000000000000000000000000000000000000000000000000000000000000) w1 w' := zAgr_be be (by decide) (by decide) (by decide)
    have ks : zKs z1 z' := fun v _ _ => ⟨fun j hj => (ec.1 7 j v (by omega)).trans ((k0 v).1 j hj), fun i => (ec.2.1 125 v i (by omega)).trans ((k0 v).2 i)⟩
    have i15 : zgI z' 11 15 0 = 0 := (ec.1 11 15 0 (by omega)).trans ((hhI 11 15 0 (by omega)).trans h15)
    have q44 : ∀ v, zgI w' 14 44 v = zgI w1 14 44 v := fun v => zFr_gI (wzsgA _ _ e2) (by decide) (by decide) v
    refine ⟨z', z', w', g, R, mk, c1, c2, Or.inl ⟨i15, rfl⟩, by rw [zTA_be be]; exact p', ⟨i', fun e hhe q => ?_⟩, zWa_a hc (zAgr_le ac (by decide)) (zAgr_le am (by decide)) hA, zWp_a hc (zAgr_le ac (by decide)) ks (zAgr_le am (by decide)) (fun _ _ _ y => y) hP, zMs_a (zAgr_le ac (by decide)) (zAgr_le am (by decide)) hM, fun _ _ _ y => y, Or.inl rfl, zUd_tr u0 (zUd_seg143 (zUd_rf zh) _ _ e1), Or.inl rfl, fun v _ => ⟨fun j hj => (ec.1 7 j v (by omega)).trans ((k0 v).1 j hj), fun i => (ec.2.1 125 v i (by omega)).trans ((k0 v).2 i)⟩, fun dd D _ hD => zMD_be be hD, zAgr_le am (by decide), Or.inl ⟨d, hd6, hlv, e1, e2, ec, be, rfl⟩⟩
    rw [q44]
    exact hB.2 e hhe ((ac.1 2 0 e (by decide) (by decide) (by decide)).symm.trans q)
  · -- at a new one
    have he : hEnd T (6 * b + d) := by
      have := hc.1
      exact ⟨by omega, by rw [show (6 * b + d) / 6 = b by omega]; exact hb, by rw [show (6 * b + d) / 6 = b by omega]; exact hr⟩
    have a2 : zAgr (mRC ||| (mPpC ||| 0x10000000000000000000000000000000000000000000000000000000000000000000000000000000000000000000000040000000000000000000000000000000000000000000000000000000000000010000000000000000000)) zh z2 := zAgr_of (fun k j o _ hj c => I2 k j o (fun y => by
      rw [y.1] at c; exact nB_no (by decide) hj c) (fun y => by
      rw [y.1, y.2.1] at c; exact absurd c (by decide))) A2 L2 Q2
    have ac : zAgr (mRC ||| (mPpC ||| 0x10000000000000000000000000000000000000000000000000000000000000000000000000000000000000000000000040000000000000000000000000000000000000000000000000000000000000010000000000000000000)) z1 z' := zAgr_tr (zAgr_le a0 (by decide)) (zAgr_tr a2 (zAgr_tr (zAgr_ec ec3 (by decide) (by decide) (by decide) (by decide) (by decide)) (zAgr_ec ec (by decide) (by decide) (by decide) (by decide) (by decide))))
    have am3 : zAgr (mRM ||| (mPpM ||| 0x2000000000000000000000000000000000000000000000000000000000020000000000000000000000000000000000000000000000000000000000000000000000000000000000000000000000000000000000000000000000000000000000000000000000000000000000000000000000000000000000000000000000000000000)) w1 w3 := zAgr_dm dm mL mQ (by decide) (by decide) (by decide) (by decide)
    have am : zAgr (mRM ||| (mPpM ||| 0x2000000000000000000000000000000000000000000000000000000000020000000000000000000000000000000000000000000000000000000000000000000000000000000000000000000000000000000000000000000000000000000000000000000000000000000000000000000000000000000000000000000000000000000)) w1 w' := zAgr_tr am3 (zAgr_be be (by decide) (by decide) (by decide))
    have i15 : zgI z' 11 15 0 = 0 := (ec.1 11 15 0 (by omega)).trans ((ec3.1 11 15 0 (by omega)).trans ((I2 11 15 0 (by omega) (by omega)).trans ((hhI 11 15 0 (by omega)).trans h15)))
    have k7 : ∀ v, (∀ j, j < 15 → zgI z' 7 j v = zgI z1 7 j v) ∧ ∀ i, zgA z' 125 v i = zgA z1 125 v i := fun v => ⟨fun j hj => (ec.1 7 j v (by omega)).trans ((ec3.1 7 j v (by omega)).trans ((I2 7 j v (by omega) (by omega)).trans ((k0 v).1 j hj))), fun i => (ec.2.1 125 v i (by omega)).trans ((ec3.2.1 125 v i (by omega)).trans ((A2 125 v i).trans ((k0 v).2 i)))⟩
    have d2o : ∀ v, ¬ v = 6 * b + d → ∀ j, zgI z' 2 j v = zgI z1 2 j v := fun v hv j => (ec.1 2 j v (by omega)).trans ((ec3.1 2 j v (by omega)).trans ((I2 2 j v (by omega) (by omega)).trans (hhI 2 j v (by omega))))
    have d2e : zgI z' 2 0 (6 * b + d) = 2 := (ec.1 2 0 _ (by omega)).trans ((ec3.1 2 0 _ (by omega)).trans d0)
    have q44 : ∀ v, zgI w' 14 44 v = zgI w3 14 44 v := fun v => zFr_gI (wX19_arriveListening (Nat.and_self _) (zFr_rf _ _) _ _ o2) (by decide) (by decide) v
    have q44o : ∀ v, ¬ v = 6 * b + d → zgI w' 14 44 v = zgI w1 14 44 v := fun v hv => (q44 v).trans (dm.1 14 44 v (by omega) (by omega))
    have TA' : zTA w' T = zTA w1 T := (zTA_be be).trans (zTA_cg (fun c k _ _ => dm.2 150 c k (by omega) (by omega)))
    have hu : zUd z1 z' := by
      have g2 : zUd zh z2 := zUd_eq (zUd_rf zh) (fun v => I2 6 2 v (by omega) (by omega)) (fun v => I2 6 3 v (by omega) (by omega))
      have g3 : zUd z2 z3 := zUd_begin (zUd_rf z2) _ _ bg
      have g4 : zUd z3 z' := zUd_fr (zUd_rf z3) (wX3_takeListening (Nat.and_self _) (zFr_rf _ _) _ _ o1) (by decide)
      exact zUd_tr u0 (zUd_tr g2 (zUd_tr g3 g4))
    refine ⟨z', z', w', g, R, mk, c1, c2, Or.inl ⟨i15, rfl⟩, by rw [TA']; exact p', ⟨i', fun e hhe q => ?_⟩, zWa_a hc (zAgr_le ac (by decide)) (zAgr_le am (by decide)) hA, zWp_a hc (zAgr_le ac (by decide)) (fun v _ _ => k7 v) (zAgr_le am (by decide)) (fun _ _ _ y => y) hP, ⟨fun n => ?_, fun e hhe q => ?_, ?_, fun c hcb => ?_⟩, fun _ _ _ y => y, Or.inl rfl, hu, Or.inl rfl, fun v _ => k7 v, fun dd D _ hD => zMD_be be (zMD_cg hD.1.1 (fun k _ => dm.2 172 0 _ (by omega) (by omega)) (fun k i => dm.2 174 k i (by omega) (by omega)) (fun k i => mL 175 k i) (fun k i => dm.2 178 k i (by omega) (by omega)) rfl (fun _ _ => rfl) hD), zAgr_le am (by decide), Or.inr (Or.inl ⟨d, l, z2, z3, w3, bk, hd6, hl6, hfree, hl1, hl2, hK, hno, I2, e117, A2, L2, ⟨d0, d1, d2, d3, d8, d10, d11⟩, ⟨⟨Lx, Mx, bg⟩, ec3, ee3, s3, m3, m15, F3⟩, ⟨bk1, bk2, bk3, bk4, bk5, bk6, bk7, bk8⟩, ⟨dm, mL, mQ, zm26, Rb, rb1, rb2, rb3⟩, o1, o2, ec, be, rfl⟩)⟩
    · by_cases y : e = 6 * b + d
      · subst y
        exact ⟨bk, bk1, (q44 _).trans bk2, by rw [show (6 * b + d) / 6 = b by omega]; exact h0⟩
      · rw [q44o e y]
        exact hB.2 e hhe ((d2o e y 0).symm.trans q)
    · rw [ac.1 5 10 n (by decide) (by decide) (by decide), am.1 16 9 n (by decide) (by decide) (by decide)]; exact hM.1 n
    · by_cases y : e = 6 * b + d
      · rw [y, d2e] at q; exact absurd q (by decide)
      · rw [d2o e y]
        exact hM.2.1 e hhe ((d2o e y 0).symm.trans q)
    · rw [ac.1 11 8 0 (by decide) (by decide) (by decide), be.1 19 26 0 (by omega) (by omega)]
      have : zgI w3 19 26 0 = zgI w1 19 26 0 := zm26
      rw [this]; exact hM.2.2.1
    · rw [ac.1 1 12 c (by decide) (by decide) (by decide), am.1 12 29 c (by decide) (by decide) (by decide)]; exact hM.2.2.2 c hcb
  · -- at none
    have i15 : zgI zh 11 15 0 = 0 := (hhI 11 15 0 (by omega)).trans h15
    refine ⟨zh, zh, w1, g, R, mk, c1, c2, Or.inl ⟨i15, rfl⟩, hPh, zB44_a (zAgr_le a0 (by decide)) (zAgr_rf _ _) hB, zWa_a hc (zAgr_le a0 (by decide)) (zAgr_rf _ _) hA, zWp_a hc (zAgr_le a0 (by decide)) (fun v _ _ => k0 v) (zAgr_rf _ _) (fun _ _ _ y => y) hP, zMs_a (zAgr_le a0 (by decide)) (zAgr_rf _ _) hM, fun _ _ _ y => y, Or.inl rfl, u0, Or.inl rfl, fun v _ => k0 v, fun _ _ _ hD => hD, zAgr_rf _ _, Or.inr (Or.inr (Or.inl ⟨rfl, rfl, rfl⟩))⟩
  · -- a stranger's
    have ac : zAgr (mW0 ||| 0x100000000000000000000000000000000) z1 z2 := zAgr_tr a0 (zAgr_tr (zAgr_kd kd (by decide) (by decide)) (zAgr_fr fs (by decide)))
    have am : zAgr (mW0m ||| 0x20000000000000000000000000000000000000000000000000000030000000000000000000000000000000000000000000000000000000000000000000000000000000000000000000000000000000000000000000000000000000000000000000000000000000000000000000000000000000000000000000000000000000000000000000000000000000000000000000) w1 w' := zAgr_fr fm (by decide)
    have TA' : zTA w' T = zTA w1 T := zTA_cg (fun c k _ _ => zFr_gA fm (by decide) c k)
    have k7 : ∀ v, v ∈ X ∨ (515 ≤ v ∧ v < 579) → ¬ v = 0 → (∀ j, j < 15 → zgI z2 7 j v = zgI z1 7 j v) ∧ ∀ i, zgA z2 125 v i = zgA z1 125 v i := fun v hv v0 => ⟨fun j hj => ((ke v hv.symm).1 j).trans ((kd.1 7 j v (by omega)).trans ((k0 v).1 j hj)), fun i => ((ke v hv.symm).2 i).trans ((kd.2.1 125 v i (by omega) (by omega)).trans ((k0 v).2 i))⟩
    have X0 : ∀ v, v ∈ X → ¬ v = 0 := fun v hv => by
      obtain ⟨⟨p1, -⟩, -⟩ := hPh
      obtain ⟨-, -, -, -, ⟨-, -, t3⟩, -⟩ := p1
      have := (zX1 t3 v hv).1; omega
    have hu : zUd z1 z2 := zUd_tr u0 (zUd_fr (zUd_eq (zUd_rf zh) (fun v => kd.1 6 2 v (by omega)) (fun v => kd.1 6 3 v (by omega))) fs (by decide))
    refine ⟨zsI za 11 15 0 1, z2, w', g', R', _, c1, c4, Or.inr ⟨?_, ?_⟩, by rw [TA']; exact p', zB44_a (zAgr_le ac (by decide)) (zAgr_le am (by decide)) hB, zWa_a hc (zAgr_le ac (by decide)) (zAgr_le am (by decide)) hA, zWp_a hc (zAgr_le ac (by decide)) (fun v v1 v2 => k7 v (Or.inr ⟨v1, v2⟩) (by omega)) (zAgr_le am (by decide)) mono hP, zMs_a (zAgr_le ac (by decide)) (zAgr_le am (by decide)) hM, mono, Or.inr rfl, hu, zGs_mono (fun D hD => hD.imp (fun e => by rw [e]; exact md.1.1.1) id) gs, fun v hv => k7 v (Or.inl hv) (X0 v hv), hD, zAgr_le am (by decide), Or.inr (Or.inr (Or.inr ⟨hno, za, hK, h150, c3, gs, md, kd, fs, fm⟩))⟩
    · rw [zgI_sI, if_pos ⟨rfl, rfl, rfl⟩]; decide
    · have := zsI_undo za 11 15 0 1
      rw [h150] at this
      rw [this]; exact c3
