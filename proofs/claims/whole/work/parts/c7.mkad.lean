/-! routers: the model makes a datagram with an advert, and tells it -/
theorem zm_mkAd {w : St} {T : Tp} {K : Int32 → Int32 → Int32 → Prop} {g : Sg} {X TS TA TB : List Nat} {b q r num a n N : Nat} {goal : Int32} {L : List En} {B : Nat → Int32} (hc : zTc T) (hX : X.length ≤ 97) (h : zNm w T K g X TS TA TB) (h0 : zgI w 12 0 b = Int32.ofNat b) (h4 : zgI w 12 4 b = Int32.ofNat n) (hL : zEn L) (hq : tv T q) (hqb : tw T q = b) (ha : a < 2400) (haT : a ∈ TA) (hA : zAdw w a r num L) (hB : zAe B r num L) (hN : 18 < N) :
    ∃ w1 w2 d, fX19_make N 0 b (3 : Int32) (Int32.ofNat (12 + 6 * L.length)) (zad q) goal w = some (Int32.ofNat d, w1) ∧ fX19_set N 0 (Int32.ofNat d) (12 : Int32) (zgI w1 12 0 b) w1 = some (0, zsA w1 172 0 (18 * d + 12) (Int32.ofNat b)) ∧ fX19_set N 0 (Int32.ofNat d) (11 : Int32) (Int32.ofNat a) (zsA w1 172 0 (18 * d + 12) (Int32.ofNat b)) = some (0, zsA (zsA w1 172 0 (18 * d + 12) (Int32.ofNat b)) 172 0 (18 * d + 11) (Int32.ofNat a)) ∧ w2 = zsA (zsA (zsA w1 172 0 (18 * d + 12) (Int32.ofNat b)) 172 0 (18 * d + 11) (Int32.ofNat a)) 179 0 a (zgA (zsA (zsA w1 172 0 (18 * d + 12) (Int32.ofNat b)) 172 0 (18 * d + 11) (Int32.ofNat a)) 179 0 a + 1) ∧ d ∉ X ∧ zNm w2 T K g (d :: X) TS TA TB ∧ zMD w2 T K d (dMk q goal 3 (Int32.ofNat n) (12 + 6 * L.length) B) ∧ zKm X w w2 ∧ zFr 0x8100000000000000000000000000000000040000000000000000000000000000000000000000000000000000000000000000000000000000000000000000000000000000000000000010000000000000000000000000000000000000000000000000000000000000000000000000000000000000000000000000000000000000000000000000000000000000000000000000000000000000000000000000000000000000000000000000 w w2 ∧ (∀ c, zgI w2 12 4 c = if c = b then zgI w 12 4 b + 1 else zgI w 12 4 c) := by
  have hll := hL.1
  obtain ⟨w1, d, r1, r2, r3, r4, r5, r6, r7, r9, r8⟩ := zm_makeN (N := N) (b := b) (kind := 3) (len := Int32.ofNat (12 + 6 * L.length)) (source := zad q) (goal := goal) hc (by omega) h hN
  have n12 := zm_setN (k := 12) (v := Int32.ofNat b) hc r4 (by omega) (by omega) (by omega)
  let wa : St := zsA w1 172 0 (18 * d + 12) (Int32.ofNat b)
  have m1 : ∀ k, k < 18 → md wa d k = if k = 12 then Int32.ofNat b else md w1 d k := fun k hk => by
    show md (zsA w1 172 0 (18 * d + 12) (Int32.ofNat b)) d k = _
    rw [md_set (by omega) hk]
    simp only [true_and]
  have a11 : md wa d 11 = -1 := by rw [m1 11 (by omega), if_neg (by omega), r5 11 (by omega), if_pos (by omega)]
  obtain ⟨t1, t2⟩ := zm_textN hc n12.1 a11 ha haT
  let wb : St := zsA wa 172 0 (18 * d + 11) (Int32.ofNat a)
  have e179 : zgA wb 179 0 a = zgA wa 179 0 a := by
    show zgA (zsA wa 172 0 _ _) 179 0 a = _
    rw [zgA_sA, if_neg (by omega)]
  let w2 : St := zsA wb 179 0 a (zgA wa 179 0 a + 1)
  have ew2 : w2 = zsA wb 179 0 a (zgA wb 179 0 a + 1) := by rw [e179]
  have i0 : zgI w1 12 0 b = Int32.ofNat b := (r9 12 0 b (by omega)).trans ((if_neg (by omega)).trans h0)
  have f2 : zFr 0x8100000000000000000000000000000000040000000000000000000000000000000000000000000000000000000000000000000000000000000000000000000000000000000000000010000000000000000000000000000000000000000000000000000000000000000000000000000000000000000000000000000000000000000000000000000000000000000000000000000000000000000000000000000000000000000000000000 w w2 := zFr_A (zFr_A (zFr_A (zFr_w r7 (by decide)) (by decide)) (by decide)) (by decide)
  have kk : zKm X w w2 := by
    have hd : ∀ {v : Int32} {j : Nat} {u : St}, j < 18 → zKm X u (zsA u 172 0 (18 * d + j) v) := fun {v j u} hj => ⟨fun e k he hk => by rw [md_set hj hk, if_neg (fun y => r3 (by rw [← y.1]; exact he))], fun k i => by rw [zgA_sA, if_neg (fun y => absurd y.1 (by decide))], fun k i => by rw [zgA_sA, if_neg (fun y => absurd y.1 (by decide))], fun _ _ _ => rfl⟩
    exact zKm_tr (zKm_tr r6 (hd (by omega))) t2
  have m2 : ∀ k, k < 18 → md w2 d k = if k = 11 then Int32.ofNat a else if k = 12 then Int32.ofNat b else md w1 d k := fun k hk => by
    show zgA (zsA wb 179 0 a _) 172 0 (18 * d + k) = _
    rw [zgA_sA, if_neg (by omega)]
    show md (zsA wa 172 0 (18 * d + 11) (Int32.ofNat a)) d k = _
    rw [md_set (by omega) hk]
    simp only [true_and]
    rw [m1 k hk]
  have A78 : ∀ i, zgA w2 178 0 i = zgA w 178 0 i := fun i => zFr_gA f2 (by decide) 0 i
  obtain ⟨e1, e2, e3⟩ := dMk_w (q := q) (goal := goal) (kind := 3) (num := Int32.ofNat n) (B := B) (len := 12 + 6 * L.length) (by omega)
  have mm : ∀ k, k < 11 → md w2 d k = md w1 d k := fun k hk => by rw [m2 k (by omega), if_neg (by omega), if_neg (by omega)]
  have k2 : (dMk q goal 3 (Int32.ofNat n) (12 + 6 * L.length) B).1 2 = 3 := rfl
  refine ⟨w1, w2, d, r1, ?_, ?_, ew2, r3, t1, ⟨⟨r2, ?_, ?_, ?_, ?_, ?_⟩, ⟨?_, ?_, ?_, ?_, ?_, by rw [e1]; omega⟩, ?_, ?_, ?_, ?_, ?_⟩, kk, f2, fun c => ?_⟩
  · rw [i0]; exact zm_set (k := 12) r2 (by omega)
  · exact zm_set (k := 11) r2 (by omega)
  · rw [mm 0 (by omega), r5 0 (by omega)]; rfl
  · rw [mm 1 (by omega), r5 1 (by omega)]; rfl
  · rw [mm 2 (by omega), r5 2 (by omega)]; rfl
  · rw [mm 3 (by omega), r5 3 (by omega)]
    exact h4
  · rw [mm 4 (by omega), r5 4 (by omega)]; rfl
  · rw [mm 5 (by omega), r5 5 (by omega)]; rfl
  · rw [mm 6 (by omega), r5 6 (by omega)]; rfl
  · rw [mm 7 (by omega), r5 7 (by omega), e1, e2, e3, if_neg (by omega), if_neg (by omega), if_neg (by omega), if_neg (by omega), if_neg (by omega), if_neg (by omega), if_neg (by omega), decide_eq_false (by omega)]; rfl
  · rw [mm 8 (by omega), r5 8 (by omega), e1, e2, if_neg (by omega), if_neg (by omega), if_neg (by omega), if_neg (by omega), if_neg (by omega), if_neg (by omega), if_neg (by omega), decide_eq_false (by omega)]; rfl
  · rw [mm 9 (by omega), r5 9 (by omega)]; rfl
  · intro y
    rw [k2] at y
    exact absurd y (by decide)
  · intro y
    rw [k2] at y
    exact absurd y (by decide)
  · intro y
    rw [k2] at y
    exact absurd y (by decide)
  · intro _
    refine ⟨by rw [mm 10 (by omega), r5 10 (by omega), if_pos (by omega)], ⟨q, hq, rfl, by rw [m2 12 (by omega), if_neg (by omega), if_pos rfl, hqb]⟩, a, ha, by rw [m2 11 (by omega), if_pos rfl], ?_⟩
    exact zMA_of (zAdw_cg (fun k _ => A78 _) hA) hB hL e1
  · intro y
    rw [k2] at y
    exact absurd y (by decide)
  · show zgI w1 12 4 c = _
    rw [r9 12 4 c (by omega)]
    simp only [true_and]
/-- a model's write to what is due -/
theorem zIp_mh {b : Nat} {z w w' : St} {T : Tp} {E : Ev} {gc gm : Sg} {Wy : Wyt} {R : Rg} {mk : Nat → Nat} {K : Int32 → Int32 → Int32 → Prop} {X XM TS TA TB : List Nat} (f : zMh b w w') (hp : zIp z w T E gc gm Wy R mk K X XM TS TA TB) : zIp z w' T E gc gm Wy R mk K X XM TS TA TB := by
  obtain ⟨⟨p1, p2, p3, p4, ⟨p5, p6, p7⟩, p8, p9, p10⟩, hR, hW⟩ := hp
  have fm := zMh_fr f
  exact ⟨⟨p1, zMV_mh f p2, p3, p4, ⟨p5, zWym_fr fm (by decide) p6, p7⟩, zRE_fr (zFr_rf 0 z) (by decide) fm (by decide) p8, zUt_keepM fm (by decide) p9, p10⟩, hR, hW⟩
/-- a class's write to a router's own books -/
theorem zIp_kr {M : Nat} {z z' w : St} {T : Tp} {E : Ev} {gc gm : Sg} {Wy : Wyt} {R : Rg} {mk : Nat → Nat} {K : Int32 → Int32 → Int32 → Prop} {X XM TS TA TB : List Nat} (f : zFr M z z') (hm1 : mNCx &&& M = 0) (hm2 : 0x1c000000000000000000000000000000000000000000000000000000000000000000000000000000000000000000000000000000000000000000000000000000000000000000000000000000000000000000000000000000000000000000000000000000000000000000000000000000000000000000000000000000000000000000000000000000000000000000000000000000000000000000000000000000000 &&& M = 0) (hm3 : mREc &&& M = 0) (hm4 : M.testBit (64 * 11 + 15) = false) (hI : ∀ j u, zgI z' 7 j u = zgI z 7 j u) (hA : ∀ k o i, k = 125 ∨ k = 113 → zgA z' k o i = zgA z k o i) (hp : zIp z w T E gc gm Wy R mk K X XM TS TA TB) : zIp z' w T E gc gm Wy R mk K X XM TS TA TB := by
  obtain ⟨⟨p1, p2, p3, p4, ⟨p5, p6, p7⟩, p8, p9, p10⟩, hR, hW⟩ := hp
  have h5 : z5 z z' := fun c k _ => hA 113 c k (Or.inr rfl)
  exact ⟨⟨zNC_cg f hm1 (fun u _ _ _ => ⟨fun j => hI j u, fun i => hA 125 u i (Or.inl rfl)⟩) (fun c => hA 113 c 5 (Or.inr rfl)) p1, p2, p3, p4, ⟨zWyc_fr f hm2 p5, p6, p7⟩, zRE_fr f hm3 (zFr_rf 0 w) (by decide) p8, zUt_keepC h5 p9, (zFr_gI f (by decide) hm4 0).trans p10⟩, zRg_same hR (fun c => hA 113 c 2 (Or.inr rfl)), hW⟩
