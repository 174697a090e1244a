/-! a door's sending, both sides -/
/-- what sending leaves alone -/
def zLk (z z' w w' : St) : Prop := (∀ j o, j < 64 → zgI z' 2 j o = zgI z 2 j o) ∧ (∀ o, zgI z' 3 14 o = zgI z 3 14 o) ∧ zgI z' 11 4 0 = zgI z 11 4 0 ∧ (∀ k j o, (k = 2 ∧ j = 12) ∨ (k = 3 ∧ (j = 16 ∨ j = 17 ∨ j = 18)) → zgR z' k j o = zgR z k j o) ∧ (∀ j o, j = 2 ∨ j = 3 ∨ j = 4 ∨ j = 44 ∨ j = 45 → zgI w' 14 j o = zgI w 14 j o) ∧ zgI w' 19 24 0 = zgI w 19 24 0 ∧ (∀ o i, zgA w' 184 o i = zgA w 184 o i) ∧ ∀ j o, j < 64 → zgI w' 13 j o = zgI w 13 j o
theorem zLk_rf (z w : St) : zLk z z w w := ⟨fun _ _ _ => rfl, fun _ => rfl, rfl, fun _ _ _ _ => rfl, fun _ _ _ => rfl, rfl, fun _ _ => rfl, fun _ _ _ => rfl⟩
theorem zLk_tr {a b c x y z : St} (h1 : zLk a b x y) (h2 : zLk b c y z) : zLk a c x z := ⟨fun j o hj => (h2.1 j o hj).trans (h1.1 j o hj), fun o => (h2.2.1 o).trans (h1.2.1 o), h2.2.2.1.trans h1.2.2.1, fun k j o hk => (h2.2.2.2.1 k j o hk).trans (h1.2.2.2.1 k j o hk), fun j o hj => (h2.2.2.2.2.1 j o hj).trans (h1.2.2.2.2.1 j o hj), h2.2.2.2.2.2.1.trans h1.2.2.2.2.2.1, fun o i => (h2.2.2.2.2.2.2.1 o i).trans (h1.2.2.2.2.2.2.1 o i), fun j o hj => (h2.2.2.2.2.2.2.2 j o hj).trans (h1.2.2.2.2.2.2.2 j o hj)⟩
theorem zFr_64 {M : Nat} {z z' : St} (k : Nat) (hk : k = 2 ∨ k = 13) (f : zFr M z z') (hm : m64 k &&& M = 0) : ∀ j o, j < 64 → zgI z' k j o = zgI z k j o := fun j o l => by
  have t : ∀ k, k = 2 ∨ k = 13 → ∀ j, j < 64 → (m64 k).testBit (64 * k + j) = true := by
    rintro k (rfl | rfl) <;> decide +kernel
  exact zFr_gI f (by omega) (ztf hm (t k hk j l)) o
theorem zLk_mk {z z' w w' : St} {e b : Nat} (c : zEk e b z z') (h14 : zgI z' 3 14 e = zgI z 3 14 e) (m : zMdF e w w') : zLk z z' w w' := by
  refine ⟨fun j o _ => c.1 2 j o (by omega) (by omega), fun o => ?_, c.1 11 4 0 (by omega) (by omega), fun k j o _ => c.2.2.2.2 k j o, fun j o hj => m.1 14 j o (by omega) (by omega), m.1 19 24 0 (by omega) (by omega), fun o i => m.2.1 184 o i (by omega), fun j o _ => m.1 13 j o (by omega) (by omega)⟩
  by_cases q : o = e
  · rw [q]; exact h14
  · exact c.1 3 14 o (by omega) (by omega)
theorem zLk_one {z z' w w' : St} {e : Nat} (c : zEc1 e z z') (h14 : zgI z' 3 14 e = zgI z 3 14 e) (m : zEm1 e w w') : zLk z z' w w' := by
  refine ⟨fun j o _ => c.1 2 j o (by omega), fun o => ?_, c.1 11 4 0 (by omega), fun k j o _ => c.2.2.2.2 k j o, fun j o hj => m.1 14 j o (by omega), m.1 19 24 0 (by omega), fun o i => m.2.1 184 o i (by omega), fun j o _ => m.1 13 j o (by omega)⟩
  by_cases q : o = e
  · rw [q]; exact h14
  · exact c.1 3 14 o (by omega)
theorem zLk_say {z z1 z' w w' : St} {b : Nat} (c : zKd b z z1) (f : zFr mX11_sendOff z1 z') (m : zFr 0x129b7f200000000000000000000000008820884000000000000120000000000000000000000000000000180000000000000000000000803d0000001000000000000000000000000000002d0000000000000000000000000000000000000000000000000000000000000000000000000000000000000000000000000000000000000000000000000000000000000000000000000000000000000000000000000000000000000000000000000 w w') : zLk z z' w w' := by
  refine ⟨fun j o l => (zFr_64 2 (by omega) f (by decide +kernel) j o l).trans (c.1 2 j o (by omega)), fun o => (zFr_gI f (by decide) (by decide) o).trans (c.1 3 14 o (by omega)), (zFr_gI f (by decide) (by decide) 0).trans (c.1 11 4 0 (by omega)), fun k j o hk => ?_, fun j o hj => ?_, zFr_gI m (by decide) (by decide) 0, fun o i => zFr_gA m (by decide) o i, fun j o l => zFr_64 13 (by omega) m (by decide +kernel) j o l⟩
  · rw [← c.2.2.2.2 k j o]
    rcases hk with ⟨rfl, rfl⟩ | ⟨rfl, rfl | rfl | rfl⟩ <;> exact zFr_gR f (by decide) (by decide) o
  · rcases hj with rfl | rfl | rfl | rfl | rfl <;> exact zFr_gI m (by decide) (by decide) o
/-- what a door with an end needs to send -/
def zHe (z w : St) (K : Int32 → Int32 → Int32 → Prop) (e bk n : Nat) : Prop := zgI z 2 0 e = 2 ∧ (zgR z 2 12 e = some e ∧ zgR z 3 16 e = some e ∧ zgR z 3 17 e = some e ∧ zgR z 3 18 e = some e) ∧ (zgI z 2 1 e &&& (65535 : Int32) = zgI z 2 1 e ∧ zgI z 2 3 e &&& (65535 : Int32) = zgI z 2 3 e) ∧ (zgI z 11 4 0 = Int32.ofNat n ∧ zgI w 19 24 0 = Int32.ofNat n) ∧ (zgI w 14 44 e = Int32.ofNat bk ∧ bk < 2592 ∧ K (zgI z 3 14 e) (Int32.ofNat bk) (zgA w 184 0 bk))
theorem zHe_lk {z z' w w' : St} {K : Int32 → Int32 → Int32 → Prop} {e bk n : Nat} (l : zLk z z' w w') (h : zHe z w K e bk n) : zHe z' w' K e bk n := by
  obtain ⟨l1, l2, l3, l4, l5, l6, l7, -⟩ := l
  unfold zHe
  rw [l1 0 e (by omega), l1 1 e (by omega), l1 3 e (by omega), l4 2 12 e (by omega), l4 3 16 e (by omega), l4 3 17 e (by omega), l4 3 18 e (by omega), l3, l6, l5 44 e (by omega), l2, l7]
  exact h
theorem zRd_p {z w : St} {e : Nat} (h : zRd z w e) (h2 : zgI z 2 0 e = 2) : zgI z 2 1 e = zgI w 14 2 e ∧ zgI z 2 2 e = zgI w 14 3 e ∧ zgI z 2 3 e = zgI w 14 4 e := by
  rcases h.2 with y | y | y
  · rw [y.1] at h2; exact absurd h2 (by decide)
  · rw [y.1] at h2; exact absurd h2 (by decide)
  · obtain ⟨a1, a2, a3, a4, a5, a6, a7, a8, a9, a10, -⟩ := y
    exact ⟨a4, a5, a6⟩
theorem zMsr_le {z z' : St} {e : Nat} (s : zS3 z z') (h6 : ∀ j, j = 2 ∨ j = 3 ∨ j = 9 → zgI z' 6 j e = zgI z 6 j e) (h5 : zgI z' 3 5 e = zgI z 3 5 e) : zMsr z' e ≤ zMsr z e := by
  have q : ∀ j, j = 9 ∨ j = 11 ∨ j = 12 ∨ j = 13 → zb1 (zgI z' 3 j e) ≤ zb1 (zgI z 3 j e) := fun j hj => by
    rcases s e j (by omega) with y | y | y
    · rw [y]; exact Nat.le_refl _
    · rw [y.2]; exact Nat.zero_le _
    · omega
  have q9 := q 9 (by omega)
  have q11 := q 11 (by omega)
  have q12 := q 12 (by omega)
  have q13 := q 13 (by omega)
  unfold zMsr
  rw [h6 2 (by omega), h6 3 (by omega), h6 9 (by omega), h5]
  omega
/-- what reading looks at stays -/
def zLqC (z z' : St) : Prop := (∀ o, zgI z' 3 15 o = zgI z 3 15 o) ∧ (∀ o, zgI z' 4 3 o = zgI z 4 3 o) ∧ zgI z' 11 8 0 = zgI z 11 8 0 ∧ zgI z' 11 19 0 = zgI z 11 19 0 ∧ (∀ k o i, k = 143 ∨ k = 144 → zgA z' k o i = zgA z k o i) ∧ ∀ o i, zgL z' 145 o i = zgL z 145 o i
def zLqM (w w' : St) : Prop := (∀ o, zgI w' 14 46 o = zgI w 14 46 o) ∧ zgI w' 19 26 0 = zgI w 19 26 0 ∧ (∀ o i, zgL w' 181 o i = zgL w 181 o i) ∧ (∀ o i, zgA w' 182 o i = zgA w 182 o i) ∧ ∀ o, zgR w' 13 4 o = zgR w 13 4 o
theorem zLqC_rf (z : St) : zLqC z z := ⟨fun _ => rfl, fun _ => rfl, rfl, rfl, fun _ _ _ _ => rfl, fun _ _ => rfl⟩
theorem zLqM_rf (z : St) : zLqM z z := ⟨fun _ => rfl, rfl, fun _ _ => rfl, fun _ _ => rfl, fun _ => rfl⟩
theorem zLqC_tr {a b c : St} (h1 : zLqC a b) (h2 : zLqC b c) : zLqC a c := ⟨fun o => (h2.1 o).trans (h1.1 o), fun o => (h2.2.1 o).trans (h1.2.1 o), h2.2.2.1.trans h1.2.2.1, h2.2.2.2.1.trans h1.2.2.2.1, fun k o i hk => (h2.2.2.2.2.1 k o i hk).trans (h1.2.2.2.2.1 k o i hk), fun o i => (h2.2.2.2.2.2 o i).trans (h1.2.2.2.2.2 o i)⟩
theorem zLqM_tr {a b c : St} (h1 : zLqM a b) (h2 : zLqM b c) : zLqM a c := ⟨fun o => (h2.1 o).trans (h1.1 o), h2.2.1.trans h1.2.1, fun o i => (h2.2.2.1 o i).trans (h1.2.2.1 o i), fun o i => (h2.2.2.2.1 o i).trans (h1.2.2.2.1 o i), fun o => (h2.2.2.2.2 o).trans (h1.2.2.2.2 o)⟩
theorem zLqC_fr {M : Nat} {z z' : St} (f : zFr M z z') (hm : 0x38000000000000000000000000000000000000000000000000000000000000000000000000000000000000000000000000000000000000000000000000000000000000000000000000000008010000000000000000000000000000000000000000000000000000000000000000000000000000000000000000000000000000000000000000080000000000008000000000000000000000000000000000000000000000000000 &&& M = 0) : zLqC z z' := ⟨fun o => zFr_gI f (by omega) (ztf hm (by decide)) o, fun o => zFr_gI f (by omega) (ztf hm (by decide)) o, zFr_gI f (by omega) (ztf hm (by decide)) 0, zFr_gI f (by omega) (ztf hm (by decide)) 0, fun k o i hk => zFr_gA f (ztf hm (by rcases hk with rfl | rfl <;> decide)) o i, fun o i => (f.2 145 o i (ztf hm (by decide))).2.1⟩
theorem zLqM_fr {M : Nat} {z z' : St} (f : zFr M z z') (hm : 0x60000000000000000000000000000040000000000000000000000000000000000000000000000000000000000000000000000000040000000000000000000000000100000000000000000000000000000000000000000000000000000000000000000000000000000000000000000000000000000000000000000000000000000000000000000000000000000000000000000000000000000000000000000000000000000000000000000 &&& M = 0) : zLqM z z' := ⟨fun o => zFr_gI f (by omega) (ztf hm (by decide)) o, zFr_gI f (by omega) (ztf hm (by decide)) 0, fun o i => (f.2 181 o i (ztf hm (by decide))).2.1, fun o i => zFr_gA f (ztf hm (by decide)) o i, fun o => zFr_gR f (by omega) (ztf hm (by decide)) o⟩
theorem zLqC_kd {b : Nat} {z z' : St} (c : zKd b z z') : zLqC z z' := ⟨fun o => c.1 3 15 o (by omega), fun o => c.1 4 3 o (by omega), c.1 11 8 0 (by omega), c.1 11 19 0 (by omega), fun k o i _ => c.2.1 k o i (by omega) (by omega), fun o i => c.2.2.1 145 o i⟩
theorem zLqM_one {e : Nat} {w w' : St} (m : zEm1 e w w') : zLqM w w' := ⟨fun o => m.1 14 46 o (by omega), m.1 19 26 0 (by omega), fun o i => m.2.2.1 181 o i, fun o i => m.2.1 182 o i (by omega), fun o => m.2.2.2.2 13 4 o⟩
theorem zLqM_mk {e : Nat} {w w' : St} (m : zMdF e w w') : zLqM w w' := ⟨fun o => m.1 14 46 o (by omega) (by omega), m.1 19 26 0 (by omega) (by omega), fun o i => m.2.2.1 181 o i (by omega), fun o i => m.2.1 182 o i (by omega), fun o => m.2.2.2.2 13 4 o⟩
/-- one segment of an end is made and sent, or none was to be made -/
def zStp (T : Tp) (E : Ev) (Wy : Wyt) (b e n N : Nat) (z w : St) (g : Sg) (z' w' : St) (g' : Sg) : Prop :=
  zEe z w e ∧ ((fX3_makeNext N e 0 (Int32.ofNat n) z = some (0, z') ∧ g' = g ∧ zEc1 e z z' ∧ zEm1 e w w' ∧ zEe z' w' e) ∨
    ∃ z1 w1 z2 V, fX3_makeNext N e 0 (Int32.ofNat n) z = some (1, z1) ∧ zMdC z1 V ∧ zEk e b z z1 ∧ zMdF e w w1 ∧ zEe z1 w1 e ∧ zKd b z1 z2 ∧ (zgI z2 7 0 0 = zad (tq T b 0) ∧ zgI z2 7 1 0 = zgI z1 2 2 e ∧ zgI z2 7 3 0 = zgA z1 113 b 2 ∧ zgI z2 7 9 0 = zgI z1 3 14 e ∧ (∀ j, ¬ (j = 0 ∨ j = 1 ∨ j = 3 ∨ j = 9) → zgI z2 7 j 0 = zgI z1 7 j 0) ∧ g2 (zgA z2 125 0) 0 = zgI z1 2 1 e ∧ g2 (zgA z2 125 0) 2 = zgI z1 2 3 e ∧ ∀ i, 4 ≤ i → zgA z2 125 0 i = zgA z1 125 0 i) ∧ fX11_sendOff N 0 b 0 z2 = some (0, z') ∧ zFr mX11_sendOff z2 z' ∧ zKe [] z2 z' ∧ zFr 0x129b7f200000000000000000000000008820884000000000000120000000000000000000000000000000180000000000000000000000803d0000001000000000000000000000000000002d0000000000000000000000000000000000000000000000000000000000000000000000000000000000000000000000000000000000000000000000000000000000000000000000000000000000000000000000000000000000000000000000000 w1 w' ∧ zGs T E Wy b (fun G => G = ((fun j => zgI z2 7 j 0, zgA z2 125 0) : Dg) ∨ G.1 2 = 0) g g')
def zSeq (T : Tp) (E : Ev) (Wy : Wyt) (b e n N : Nat) (z w : St) (g : Sg) (z' w' : St) (g' : Sg) : Prop := ∀ I : St → St → Sg → Prop, (∀ x y h x' y' h', zStp T E Wy b e n N x y h x' y' h' → I x y h → I x' y' h') → I z w g → I z' w' g'
theorem zp_sends {T : Tp} {E : Ev} {Wy : Wyt} {K : Int32 → Int32 → Int32 → Prop} {TA : List Nat} {b e bk n x2 N : Nat} {i : Int32} {K2 : Nat → Nat → Int32 → St → Option (Int32 × St)} (he : hEnd T e) (hbe : e / 6 = b) (h0 : 0 < tp T b) (hn : n ≤ 400000) (hN : 1500 < N) (hTA : TA.length ≤ 3900) :
    ∀ (L : Nat) (z w : St) (g : Sg) (R : Rg) (mk : Nat → Nat) (c nc nm : Nat), zMsr z e ≤ L → c + L < 8192 → L < nc → L < nm → mk b + L < 2147483646 → zIp z w T E g g Wy R mk K [] [] [] TA (zTB w T) → (∀ u, hEnd T u → zIx (zgI w 14 44 u) 2592 ∧ zIx (zgI w 14 45 u) 2592) → zHe z w K e bk n →
    ∃ z' w' g' R' mk', fX11_doHost_44 N K2 nc 0 b i e e (Int32.ofNat c) z = fX11_doHost_92 N K2 0 b i e z' ∧ (zc (fX19_send N 0 e w) fun r1 z2 => fX19_doorTurn_75 N nm 0 b x2 e r1 z2) = (zc (fX14_persist N e (Int32.ofNat n) w') fun _ z3 => fX19_doorTurn_118 N N 0 x2 e z3) ∧ zIp z' w' T E g' g' Wy R' mk' K [] [] [] TA (zTB w' T) ∧ (zLk z z' w w' ∧ zLqC z z' ∧ zLqM w w') ∧ (∀ u, hEnd T u → zIx (zgI w' 14 44 u) 2592 ∧ zIx (zgI w' 14 45 u) 2592) ∧ (∀ c n v, R c n = some v → R' c n = some v) ∧ (∀ c, ¬ c = b → mk' c = mk c) ∧ (mk b ≤ mk' b ∧ mk' b + zMsr z' e ≤ mk b + zMsr z e) ∧ zSeq T E Wy b e n N z w g z' w' g' := by
  intro L
  induction L using Nat.strongRecOn with
  | ind L ih =>
    intro z w g R mk c nc nm hL hc hnc hnm hmk hp hI hH
    obtain ⟨nc, rfl⟩ : ∃ k, nc = k + 1 := ⟨nc - 1, by omega⟩
    obtain ⟨nm, rfl⟩ : ∃ k, nm = k + 1 := ⟨nm - 1, by omega⟩
    obtain ⟨⟨p1, p2, p3, p4, p5, p8, p9, p10⟩, hR, hW⟩ := id hp
    obtain ⟨u0, ⟨r12, r16, r17, r18⟩, ⟨m1, m3⟩, ⟨tc, tm⟩, b44, bk2, hK⟩ := id hH
    obtain ⟨he1, he2, he3⟩ := id he
    have hRd : zRd z w e := by
      have := p8 (e / 6) (e % 6) he2 he3 (by omega)
      rw [show 6 * (e / 6) + e % 6 = e from by omega] at this
      exact this
    have hE := zRd_E hRd u0
    have e13 : zgR z 11 13 0 = some 0 := p1.1.1.2.2.1
    show ∃ z' w' g' R' mk', fX11_doHost_44b N K2 (fX11_doHost_44 N K2 nc) 0 b i e e (Int32.ofNat c) z = _ ∧ _
    unfold fX11_doHost_44b
    rw [if_neg (show ¬ (8192 : Int32) ≤ Int32.ofNat c from fun y => by
      have := (zo_le (a := 8192) (b := c) (by omega) (by omega)).mp y
      omega), e13, zl_e, zd_e, tc]
    have wl : ∀ q, tv T q → (gW g q).length ≤ 16 := fun q hq => (p1.2.2.2.2.2.1 q hq).1
    rcases zp_next (b := b) (N := N) hn tm r16 r17 r18 (⟨p2, hI⟩ : zMB w T E g K [] [] TA) he b44 bk2 (by simp) wl (by simp) (by simp; omega) hE hN with ⟨z', w', a1, a2, a3, a4, a5, a6⟩ | ⟨z1, w1, s, a1, a2, a3, a4⟩
    · have f14 : zgI z' 3 14 e = zgI z 3 14 e := zFr_gI (wX3_makeNext (Nat.and_self _) (zFr_rf _ _) _ _ a1) (by decide) (by decide) e
      have lk : zLk z z' w w' := zLk_one a4 f14 a5
      have q44 : ∀ j u, j = 44 ∨ j = 45 → zgI w' 14 j u = zgI w 14 j u := fun j u hj => a5.1 14 j u (by omega)
      refine ⟨z', w', g, R, mk, ?_, ?_, ?_, ⟨lk, zLqC_fr (wX3_makeNext (Nat.and_self _) (zFr_rf _ _) _ _ a1) (by decide), zLqM_one a5⟩, fun u hu => by rw [q44 44 u (by simp), q44 45 u (by simp)]; exact hI u hu, fun _ _ _ h => h, fun _ _ => rfl, ⟨Nat.le_refl _, by omega⟩, fun I st h => st z w g z' w' g ⟨hE, Or.inl ⟨a1, rfl, a4, a5, a3⟩⟩ h⟩
      · rw [a1, zc_e, if_neg (fun y => y rfl)]
      · rw [a2, zc_e]
        show fX19_doorTurn_75b N (fX19_doorTurn_75 N nm) 0 b x2 e (-1) w' = _
        unfold fX19_doorTurn_75b
        rw [if_pos rfl, lk.2.2.2.2.2.1, tm]
      · have M' := zMB_em (⟨p2, hI⟩ : zMB w T E g K [] [] TA) a5
        refine zIp_ends hp (zEk_c (b := b) a4) (fun c => a4.2.1 113 c 2 (by omega)) (zBz_e (zBe_em a5)) M'.1 (fun _ => zRd_of hRd u0 (fun j => a4.1 2 j e (by omega)) (fun j => a5.1 13 j e (by omega)) (fun j hj => a5.1 14 j e (by omega)) a3)
    · obtain ⟨b1, ⟨V, b2, b3, b4, b5⟩, b6, b7, b8, b9, c1, c2⟩ := id a3
      have f3 := wX3_makeNext (Nat.and_self _) (zFr_rf _ _) _ _ a1
      have f14 : zgI z1 3 14 e = zgI z 3 14 e := zFr_gI f3 (by decide) (by decide) e
      have lk1 : zLk z z1 w w1 := zLk_mk c1 f14 c2
      have hRd1 : zRd z1 w1 e := zRd_of hRd u0 (fun j => c1.1 2 j e (by omega) (by omega)) (fun j => c2.1 13 j e (by omega) (by omega)) (fun j hj => c2.1 14 j e (by omega) (by omega)) b1
      have I1 := zIp_ends hp c1 (fun c => zFr_gA f3 (by decide) c 2) (zBz_f c2) b6.1 (fun _ => hRd1)
      have H1 := zHe_lk lk1 hH
      obtain ⟨v0, ⟨s12, s16, s17, s18⟩, ⟨n1, n3⟩, ⟨tc1, tm1⟩, d44, -, hK1⟩ := id H1
      obtain ⟨g1, g2, g3⟩ := zRd_p hRd1 v0
      have hs : s < 2400 := b3.1
      obtain ⟨z2, z3, w3, g', R', k1, k2, k3, k4, k5, k6, k7, k8, k9, k10, k11, k12⟩ := zIp_say (N := N) I1 (by rw [← hbe]; exact he2) (by rw [← hbe]; exact he3) h0 (by omega) s12 n1 n3 b2 b3 b8 g1 g2 g3 (fun y => by
        obtain ⟨y1, y2⟩ := b5 y
        rw [y1, y2, d44, zoC (by omega)]; exact hK1) hN
      have lk3 : zLk z1 z3 w1 w3 := zLk_say k8 k9 k10
      have q44 : ∀ j u, j = 44 ∨ j = 45 → zgI w3 14 j u = zgI w1 14 j u := fun j u hj => lk3.2.2.2.2.1 j u (by omega)
      have ms : zMsr z3 e ≤ zMsr z1 e := zMsr_le (zS3_sendOff (fun _ _ _ => Or.inl (k8.1 3 _ _ (by omega))) _ _ k3) (fun j hj => by
        rw [← k8.1 6 j e (by omega)]
        rcases hj with rfl | rfl | rfl <;> exact zFr_gI k9 (by decide) (by decide) e) ((zFr_gI k9 (by decide) (by decide) e).trans (k8.1 3 5 e (by omega)))
      obtain ⟨z', w', g'', R'', mk', i1, i2, i3, ⟨i4, i41, i42⟩, i43, i5, i6, ⟨i7, i8⟩, i9⟩ := ih (L - 1) (by omega) z3 w3 g' R' (zupd mk b (mk b + 1)) (c + 1) nc nm (by omega) (by omega) (by omega) (by omega) (by rw [zupd_s]; omega) (by rw [zTB_cg q44]; exact k5) (fun u hu => by rw [q44 44 u (by simp), q44 45 u (by simp)]; exact b6.2 u hu) (zHe_lk lk3 H1)
      refine ⟨z', w', g'', R'', mk', ?_, ?_, i3, ⟨zLk_tr lk1 (zLk_tr lk3 i4), zLqC_tr (zLqC_fr f3 (by decide)) (zLqC_tr (zLqC_kd k8) (zLqC_tr (zLqC_fr k9 (by decide)) i41)), zLqM_tr (zLqM_mk c2) (zLqM_tr (zLqM_fr k10 (by decide)) i42)⟩, i43, fun c n v h => i5 c n v (k6 c n v h), fun c hc => ?_, ⟨?_, ?_⟩, fun I st h => i9 I st (st z w g z3 w3 g' ⟨hE, Or.inr ⟨z1, w1, z2, V, a1, b2, c1, c2, b1, k8, k11, k3, k9, k12, k10, k7⟩⟩ h)⟩
      · rw [a1, zc_e, if_pos (by decide), k1, zc_e, k2, zl_e, zd_e, k3, zc_e, show Int32.ofNat c + 1 = Int32.ofNat (c + 1) from zo_add c 1, zl_e]
        exact i1
      · rw [a2, zc_e]
        show fX19_doorTurn_75b N (fX19_doorTurn_75 N nm) 0 b x2 e (Int32.ofNat s) w1 = _
        unfold fX19_doorTurn_75b
        rw [if_neg (zo_ne1 (by omega)), k4, zc_e]
        exact i2
      · rw [i6 c hc, zupd_n hc]
      · rw [zupd_s] at i7; omega
      · rw [zupd_s] at i8; omega
