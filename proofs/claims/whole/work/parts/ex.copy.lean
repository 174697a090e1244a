/-! the model hears with a copy of its own, of its port -/
/-- a datagram over port number i -/
def dPt (D : Dg) (i : Nat) : Dg := (fun j => if j = 10 then Int32.ofNat i else D.1 j, D.2)
theorem dPt_n {D : Dg} {i j : Nat} (h : ¬ j = 10) : (dPt D i).1 j = D.1 j := if_neg h
theorem zIp_copy {z w : St} {T : Tp} {E : Ev} {gc gm : Sg} {Wy : Wyt} {R : Rg} {mk : Nat → Nat} {K : Int32 → Int32 → Int32 → Prop} {X XM TS TA TB : List Nat} {q d N : Nat} {D : Dg} (hp : zIp z w T E gc gm Wy R mk K X XM TS TA TB) (hq : tv T q) (hX : XM.length ≤ 100) (hd : d ∈ XM) (hD : zMD w T K d D) (hN : 18 < N) :
    ∃ w1 w' c, fX19_copyOf N 0 (Int32.ofNat d) w = some (Int32.ofNat c, w1) ∧ fX19_set N 0 (Int32.ofNat c) (9 : Int32) (zgI w1 18 1 q) w1 = some (0, w') ∧ c < 2400 ∧ c ∉ XM ∧ zIp z w' T E gc gm Wy R mk K X (c :: XM) TS TA TB ∧ zMD w' T K c (dPt D (ti T q)) ∧ (∀ e G, e ∈ XM → zMD w T K e G → zMD w' T K e G) ∧ zFr 0x9100000000000000000000000000000000040000000000000000000000000000000000000000000000000000000000000000000000000000000000000000000000000000000000000000000000000000000000000000000000000000000000000000000000000000000000000000000000000000000000000000000000000000000000000000000000000000000000000000000000000000000000000000000000000000000000000000 w w' ∧ md w' c 10 = md w d 10 := by
  obtain ⟨⟨p1, p2, p3, p4, ⟨p5, p6, p7⟩, p8, p9, p10⟩, hR, hW⟩ := hp
  obtain ⟨w1, c, c1, c2, c3, c4, c5, c6, c7⟩ := zm_copyN (N := N) p2.2.1 hX p2.2.2.2.2.1.2.2 hd hN
  have e1 : zgI w1 18 1 q = Int32.ofNat (ti T q) := (zFr_gI c7 (by decide) (by decide) q).trans (p2.1.2.2.2 q hq).2.2.1
  obtain ⟨w2, hw2⟩ : ∃ u, u = zsA w1 172 0 (18 * c + 9) (Int32.ofNat (ti T q)) := ⟨_, rfl⟩
  have n2 := zm_setN (v := Int32.ofNat (ti T q)) p2.2.1 c4 (k := 9) (by omega) (by omega) (by omega)
  have f2 : zFr 0x100000000000000000000000000000000000000000000000000000000000000000000000000000000000000000000000000000000000000000000000000000000000000000000000000000000000000000000000000000000000000000000000000000000000000000000000000000000000000000000000000000000000000000000000000000000000000000000000000000000000000000000000000000000000000000000000000 w1 w2 := by rw [hw2]; exact zFr_A (zFr_rf _ _) (by decide)
  have m2 : ∀ e j, j < 18 → md w2 e j = if e = c ∧ j = 9 then Int32.ofNat (ti T q) else md w1 e j := fun e j hj => by rw [hw2]; exact md_set (by omega) hj
  have n2 := n2.1
  rw [← hw2] at n2
  have f : zFr 0x9100000000000000000000000000000000040000000000000000000000000000000000000000000000000000000000000000000000000000000000000000000000000000000000000000000000000000000000000000000000000000000000000000000000000000000000000000000000000000000000000000000000000000000000000000000000000000000000000000000000000000000000000000000000000000000000000000 w w2 := zFr_tr (zFr_w c7 (by decide)) (zFr_w f2 (by decide))
  obtain ⟨k1, k2, k3, k4⟩ := c6
  have a174 : ∀ k i, zgA w2 174 k i = zgA w 174 k i := fun k i => (zFr_gA f2 (by decide) k i).trans (k2 k i)
  have a178 : ∀ k i, zgA w2 178 k i = zgA w 178 k i := fun k i => (zFr_gA f2 (by decide) k i).trans (k3 k i)
  have aL : ∀ k o i, zgL w2 k o i = zgL w k o i := fun k o i => by
    have : zgL w2 k o i = zgL w1 k o i := by rw [hw2]; rfl
    exact this.trans (k4 k o i)
  have d24 : d < 2400 := hD.1.1
  refine ⟨w1, w2, c, c1, by rw [e1, hw2]; exact zm_set (k := 9) c2 (by omega), c2, c3, ⟨⟨p1, zMV_up f (by decide) n2 p2, p3, p4, ⟨p5, zWym_fr f (by decide) p6, p7⟩, zRE_fr (zFr_rf 0 z) (by decide) f (by decide) p8, zUt_keepM f (by decide) p9, p10⟩, hR, hW⟩, ?_, fun e G he hG => ?_, f, ?_⟩
  · have mm : ∀ k, k < 18 → ¬ k = 9 → md w2 c k = md w d k := fun k hk n => by rw [m2 c k hk, if_neg (by omega)]; exact c5 k hk
    obtain ⟨⟨-, b0, b1, b2, b3, b4⟩, ⟨b5, b6, b7, b8, b9, b10⟩, bY⟩ := hD
    refine ⟨⟨c2, (mm 0 (by omega) (by omega)).trans b0, (mm 1 (by omega) (by omega)).trans b1, (mm 2 (by omega) (by omega)).trans b2, (mm 3 (by omega) (by omega)).trans b3, (mm 4 (by omega) (by omega)).trans b4⟩, ⟨(mm 5 (by omega) (by omega)).trans b5, (mm 6 (by omega) (by omega)).trans b6, (mm 7 (by omega) (by omega)).trans b7, (mm 8 (by omega) (by omega)).trans b8, ?_, b10⟩, ?_⟩
    · rw [m2 c 9 (by omega), if_pos ⟨rfl, rfl⟩]; rfl
    · exact zMY_cg (fun k h1 h2 => mm k h2 (by omega)) (fun s _ _ => ⟨fun k _ => a174 0 _, fun i _ => aL 175 0 _⟩) (fun a _ _ k _ => a178 0 _) rfl rfl rfl rfl rfl b10 bY
  · have ne : e ≠ c := fun y => c3 (by rw [← y]; exact he)
    exact zMD_cg hG.1.1 (fun k hk => by rw [m2 e k hk, if_neg (fun y => ne y.1)]; exact k1 e k he hk) a174 (fun k i => aL 175 k i) a178 rfl (fun _ _ => rfl) hG
  · rw [m2 c 10 (by omega), if_neg (by omega)]; exact c5 10 (by omega)
