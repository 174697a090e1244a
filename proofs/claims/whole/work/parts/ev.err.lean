/-! an error comes to a box: both sides -/
/-- a tally goes up on both sides -/
theorem zIp_tally {z w : St} {T : Tp} {E : Ev} {gc gm : Sg} {Wy : Wyt} {R : Rg} {mk : Nat → Nat} {K : Int32 → Int32 → Int32 → Prop} {X XM TS TA TB : List Nat} {b k j : Nat} (hkj : (k = 3 ∧ j = 5) ∨ (k = 6 ∧ j = 8) ∨ (k = 7 ∧ j = 9)) (hp : zIp z w T E gc gm Wy R mk K X XM TS TA TB) : zIp (zsA z 113 b k (zgA z 113 b k + 1)) (zsI w 12 j b (zgI w 12 j b + 1)) T E gc gm Wy R mk K X XM TS TA TB := by
  obtain ⟨⟨p1, p2, p3, p4, ⟨p5, p6, p7⟩, p8, p9, p10⟩, hR, hW⟩ := hp
  obtain ⟨za, hza⟩ : ∃ u, u = zsA z 113 b k (zgA z 113 b k + 1) := ⟨_, rfl⟩
  obtain ⟨wa, hwa⟩ : ∃ u, u = zsI w 12 j b (zgI w 12 j b + 1) := ⟨_, rfl⟩
  rw [← hza, ← hwa]
  have fa : zFr 0x200000000000000000000000000000000000000000000000000000000000000000000000000000000000000000000000000000000000000000000000000000000000000000000000000000000000000000000000000000000000000000000000000000000000000000000000000000000000000000000000000000000000000000000000000000000000000000000000000000000000000000000000000000000000 z za := by rw [hza]; exact zFr_A (zFr_rf _ _) (by decide)
  have fb : zFr 0x320000000000000000000000000000000000000000000000000000000000000000000000000000000000000000000000000000000000000000000000000000000000000000000000000000000000000000000000000000000000000000000000000 w wa := by
    rw [hwa]
    rcases hkj with ⟨-, rfl⟩ | ⟨-, rfl⟩ | ⟨-, rfl⟩ <;> exact zFr_I (zFr_rf _ _) (by decide)
  have A : ∀ c i, zgA za 113 c i = if c = b ∧ i = k then zgA z 113 b k + 1 else zgA z 113 c i := fun c i => by
    rw [hza, zgA_sA]; simp only [true_and]
  have I : ∀ i c, zgI wa 12 i c = if i = j ∧ c = b then zgI w 12 j b + 1 else zgI w 12 i c := fun i c => by
    rw [hwa, zgI_sI]; simp only [true_and]
  have A5 : ∀ c, zgA za 113 c 5 = zgA z 113 c 5 := fun c => by rw [A, if_neg (by omega)]
  have A2 : ∀ c, zgA za 113 c 2 = zgA z 113 c 2 := fun c => by rw [A, if_neg (by omega)]
  refine ⟨⟨zNC_cg fa (by decide) (fun u _ _ _ => ⟨fun jj => by rw [hza]; rfl, fun i => by rw [hza, zgA_sA, if_neg (by simp)]⟩) A5 p1, zMV_fr fb (by decide) (fun _ _ _ => by rw [hwa]; rfl) p2, p3, p4, ⟨zWyc_fr fa (by decide) p5, zWym_fr fb (by decide) p6, p7⟩, zRE_fr fa (by decide) fb (by decide) p8, fun c hc => ?_, (zFr_gI fa (by decide) (by decide) 0).trans p10⟩, zRg_same hR A2, hW⟩
  obtain ⟨a2, a3, a4, a6, a7⟩ := p9 c hc
  have hA : ∀ i, ¬ i = k → zgA za 113 c i = zgA z 113 c i := fun i q => by rw [A, if_neg (fun y => q y.2)]
  have hI : ∀ i, ¬ i = j → zgI wa 12 i c = zgI w 12 i c := fun i q => by rw [I, if_neg (fun y => q y.1)]
  have hk : zgA z 113 c k = zgI w 12 j c → zgA za 113 c k = zgI wa 12 j c := fun q => by
    rw [A, I]
    by_cases y : c = b
    · subst y; rw [if_pos ⟨rfl, rfl⟩, if_pos ⟨rfl, rfl⟩, q]
    · rw [if_neg (fun t => y t.1), if_neg (fun t => y t.2)]; exact q
  rcases hkj with ⟨rfl, rfl⟩ | ⟨rfl, rfl⟩ | ⟨rfl, rfl⟩
  · exact ⟨by rw [hA 2 (by decide), hI 4 (by decide)]; exact a2, hk a3, by rw [hA 4 (by decide), hI 6 (by decide)]; exact a4, by rw [hA 6 (by decide), hI 8 (by decide)]; exact a6, by rw [hA 7 (by decide), hI 9 (by decide)]; exact a7⟩
  · exact ⟨by rw [hA 2 (by decide), hI 4 (by decide)]; exact a2, by rw [hA 3 (by decide), hI 5 (by decide)]; exact a3, by rw [hA 4 (by decide), hI 6 (by decide)]; exact a4, hk a6, by rw [hA 7 (by decide), hI 9 (by decide)]; exact a7⟩
  · exact ⟨by rw [hA 2 (by decide), hI 4 (by decide)]; exact a2, by rw [hA 3 (by decide), hI 5 (by decide)]; exact a3, by rw [hA 4 (by decide), hI 6 (by decide)]; exact a4, by rw [hA 6 (by decide), hI 8 (by decide)]; exact a6, hk a7⟩
theorem zQt_tally {z w : St} {T : Tp} {b k j : Nat} (hT : zTC z T) (hkj : (k = 3 ∧ j = 5) ∨ (k = 6 ∧ j = 8) ∨ (k = 7 ∧ j = 9)) : zQt T z (zsA z 113 b k (zgA z 113 b k + 1)) w (zsI w 12 j b (zgI w 12 j b + 1)) := by
  have fa : zFr mNwC z (zsA z 113 b k (zgA z 113 b k + 1)) := zFr_A (zFr_rf _ _) (by decide)
  refine ⟨fa, fun u _ _ => ⟨fun _ _ => rfl, fun i => by rw [zgA_sA, if_neg (by simp)]⟩, zS4_fr (zS4_rf hT) (M := 0x200000000000000000000000000000000000000000000000000000000000000000000000000000000000000000000000000000000000000000000000000000000000000000000000000000000000000000000000000000000000000000000000000000000000000000000000000000000000000000000000000000000000000000000000000000000000000000000000000000000000000000000000000000000000) (zFr_A (zFr_rf _ _) (by decide)) (by decide) (by decide), ?_⟩
  rcases hkj with ⟨-, rfl⟩ | ⟨-, rfl⟩ | ⟨-, rfl⟩ <;> exact zFr_I (zFr_rf _ _) (by decide)
/-- an error about another's segment: nothing happens -/
theorem zm_actNo {w : St} {T : Tp} {b N : Nat} {source peer own pp : Int32} (hM : zTM w T) (hc : zTc T) (hb : b < tb T) (h : tr T b = true ∨ tha T b source = false) (hN : 6 < N) : ∀ (m d n : Nat), d + m = 6 → m < n → fX19_act_3 N n 0 b source peer own pp (Int32.ofNat d) w = some (0, w) := by
  have hb1 := (hM.2.1.2 b hb).2.2.1
  intro m
  induction m with
  | zero =>
    intro d n hd hn
    obtain ⟨n, rfl⟩ : ∃ k, n = k + 1 := ⟨n - 1, by omega⟩
    show fX19_act_3b N (fX19_act_3 N n) 0 b source peer own pp (Int32.ofNat d) w = _
    unfold fX19_act_3b
    split
    · rfl
    · rw [if_pos (by rw [show d = 6 by omega]; decide)]
  | succ m ih =>
    intro d n hd hn
    obtain ⟨n, rfl⟩ : ∃ k, n = k + 1 := ⟨n - 1, by omega⟩
    show fX19_act_3b N (fX19_act_3 N n) 0 b source peer own pp (Int32.ofNat d) w = _
    unfold fX19_act_3b
    rw [hb1]
    rcases h with h | h
    · rw [h, if_pos (by decide)]
    · by_cases r : tr T b = true
      · rw [r, if_pos (by decide)]
      · have r' : tr T b = false := by simpa using r
        obtain ⟨k1, k2⟩ := hM.2.2.1 b hb r' d (by omega)
        have go : fX19_act_100 N (fX19_act_3 N n) 0 b source peer own pp (Int32.ofNat d) w = some (0, w) := by
          unfold fX19_act_100
          rw [zl_e, show Int32.ofNat d + 1 = Int32.ofNat (d + 1) from zo_add d 1]
          exact ih (d + 1) n (by omega) (by omega)
        rw [r', if_neg (by decide), show (6 : Int32) = Int32.ofNat 6 from rfl, if_neg (by rw [zo_le (by omega) (by omega)]; omega), zkk (by omega) (by omega), zl_e, zoC (by omega), k1, zd_e, zl_e, k2, zkk (by omega) (by omega), zl_e, zd_e]
        split
        · exact go
        · rw [zd_e]
          split
          · exact go
          · rw [zm_isOwn hM hc _ hb hN, zc_e, h, if_pos (by rfl)]
            exact go
/-- an error comes: the class errorCame, the model act -/
theorem zp_errorCame {z w : St} {T : Tp} {E : Ev} {g : Sg} {Wy : Wyt} {R : Rg} {mk : Nat → Nat} {K : Int32 → Int32 → Int32 → Prop} {X XM TS TA TB : List Nat} {b x d N : Nat} {D D' : Dg} (hp : zIp z w T E g g Wy R mk K X XM TS TA TB) (hb : b < tb T) (hx : zPC 10 z x D) (hf : df D = 0) (h20 : 12 ≤ dl D) (hd : d ∈ XM) (hDm : zMD w T K d D') (h2 : D'.1 2 = 0) (eB : D'.2 = D.2) (hN : 6 < N) :
    ∃ z' w', fX11_errorCame N 0 b x z = some (0, z') ∧ (zl (zsI w 12 9 b (zgI w 12 9 b + 1)) fun z21 => zc (fX19_of N 0 (Int32.ofNat d) (14 : Int32) z21) fun r22 z23 => zc (fX19_of N 0 (Int32.ofNat d) (15 : Int32) z23) fun r26 z27 => zc (fX19_of N 0 (Int32.ofNat d) (16 : Int32) z27) fun r30 z31 => zc (fX19_of N 0 (Int32.ofNat d) (17 : Int32) z31) fun r34 z35 => zc (fX19_act N 0 b r22 r26 r30 r34 z35) fun _ z39 => some ((0 : Int32), z39)) = some (0, w') ∧ zIp z' w' T E g g Wy R mk K X XM TS TA TB ∧ zQt T z z' w w' ∧ zK7 z z' ∧ zKm XM w w' := by
  have hT := hp.1.1.1
  have hc := hp.1.1.2.1
  have hd24 : d < 2400 := hDm.1.1
  have P1 := zIp_tally (b := b) (k := 7) (j := 9) (by omega) hp
  have Q1 := zQt_tally (z := z) (w := w) (b := b) (k := 7) (j := 9) hT (by omega)
  obtain ⟨za, hza⟩ : ∃ u, u = zsA z 113 b 7 (zgA z 113 b 7 + 1) := ⟨_, rfl⟩
  obtain ⟨wa, hwa⟩ : ∃ u, u = zsI w 12 9 b (zgI w 12 9 b + 1) := ⟨_, rfl⟩
  rw [← hza, ← hwa] at P1 Q1
  have mda : ∀ k, md wa d k = md w d k := fun k => by rw [hwa]; rfl
  have K7a : zK7 z za := fun v => ⟨fun j _ => by rw [hza]; rfl, fun i => by rw [hza, zgA_sA, if_neg (by simp)]⟩
  have Kma : zKm XM w wa := ⟨fun d k _ _ => by rw [hwa]; rfl, fun k i => by rw [hwa]; rfl, fun k i => by rw [hwa]; rfl, fun k o i => by rw [hwa]; rfl⟩
  have o : ∀ (j : Nat), j < 18 → fX19_of N 0 (Int32.ofNat d) (Int32.ofNat j) wa = some (md w d j, wa) := fun j hj => by rw [← mda j]; exact zm_of hd24 hj
  obtain ⟨-, -, m14, m15, m16, m17⟩ := hDm.2.2.2.1 h2
  have o14 := o 14 (by omega)
  have o15 := o 15 (by omega)
  have o16 := o 16 (by omega)
  have o17 := o 17 (by omega)
  rw [m14, eB] at o14
  rw [m15, eB] at o15
  rw [m16, eB] at o16
  rw [m17, eB] at o17
  have o14 : fX19_of N 0 (Int32.ofNat d) 14 wa = some (g4 D.2 0, wa) := o14
  have o15 : fX19_of N 0 (Int32.ofNat d) 15 wa = some (g4 D.2 4, wa) := o15
  have o16 : fX19_of N 0 (Int32.ofNat d) 16 wa = some (g2 D.2 8, wa) := o16
  have o17 : fX19_of N 0 (Int32.ofNat d) 17 wa = some (g2 D.2 10, wa) := o17
  have Aa : zgA za 125 x = zgA z 125 x := by rw [hza, zA_n (by decide)]
  have hb2 : ∀ i, i + 2 ≤ 12 → g2 (zgA za 125 x) i = g2 D.2 i := fun i hi => by
    have a0 := hx.2 i (by omega)
    have a1 := hx.2 (i + 1) (by omega)
    rw [hf, Nat.zero_add] at a0 a1
    rw [Aa]; unfold g2; rw [a0, a1]
  have hb4 : ∀ i, i + 4 ≤ 12 → g4 (zgA za 125 x) i = g4 D.2 i := fun i hi => by
    unfold g4; rw [hb2 i (by omega), hb2 (i + 2) (by omega)]
  have q0 : fX7_get4 N x (0 : Int32) za = some (g4 D.2 0, za) := by rw [← hb4 0 (by omega)]; exact zc_get4 (i := 0) (by decide)
  have q4 : fX7_get4 N x (4 : Int32) za = some (g4 D.2 4, za) := by rw [← hb4 4 (by omega)]; exact zc_get4 (i := 4) (by decide)
  have q8 : fX7_get2 N x (8 : Int32) za = some (g2 D.2 8, za) := by rw [← hb2 8 (by omega)]; exact zc_get2 (i := 8) (by decide)
  have q10 : fX7_get2 N x (10 : Int32) za = some (g2 D.2 10, za) := by rw [← hb2 10 (by omega)]; exact zc_get2 (i := 10) (by decide)
  have Ta : zTC za T := P1.1.1.1
  have Ma : zTM wa T := P1.1.2.1.1
  have e7 : ∀ {β : Type} (k : Option β), zk (7 : Int32) 8 k = k := fun k => zkk (i := 7) (by decide) (by decide) k
  have b1 := (Ta.2.1.2 b hb).2.2.1
  have cl1 : fX11_errorCame N 0 b x z = if ¬ zgI za 1 1 b = 0 then some (0, za) else (zc (fX7_get4 N x (0 : Int32) za) fun r5 z6 => zc (fX1_hasAddress N b r5 z6) fun r9 z10 => if r9 = 0 then (some (0, z10)) else (zc (fX7_get4 N x (4 : Int32) z10) fun r14 z15 => zc (fX7_get2 N x (8 : Int32) z15) fun r18 z19 => zc (fX7_get2 N x (10 : Int32) z19) fun r22 z23 => zc (fX11_abortAsking N 0 b r14 r18 r22 z23) fun _ z27 => some (0, z27))) := by
    unfold fX11_errorCame
    rw [e7, e7, zl_e, hza]; rfl
  rw [cl1, zl_e, ← hwa, o14, zc_e, o15, zc_e, o16, zc_e, o17, zc_e, b1]
  by_cases yes : tr T b = false ∧ tha T b (g4 D.2 0) = true
  · obtain ⟨hr, ha⟩ := yes
    obtain ⟨⟨p1, p2, p3, p4, ⟨p5, p6, p7⟩, p8, p9, p10⟩, hR, hW⟩ := P1
    obtain ⟨z1, w1, r1, r2, r3, r4, r5, r6, r7⟩ := za_abort (N := N) (own := g2 D.2 8) (peer := g4 D.2 4) (pport := g2 D.2 10) hc hb ha hN 6 0 N N za wa rfl hN hN Ta Ma p8
    refine ⟨z1, w1, ?_, ?_, ⟨⟨zNC_cg r4 (by decide) (fun u _ _ _ => ⟨fun j => r7 j u, fun i => zFr_gA r4 (by decide) u i⟩) (fun c => zFr_gA r4 (by decide) c 5) p1, zMV_fr r5 (by decide) r6 p2, p3, p4, ⟨zWyc_fr r4 (by decide) p5, zWym_fr r5 (by decide) p6, p7⟩, r3, zUt_keep (z5_fr r4 (by decide)) r5 (by decide) p9, (zFr_gI r4 (by decide) (by decide) 0).trans p10⟩, zRg_same hR (fun c => zFr_gA r4 (by decide) c 2), hW⟩, zQt_tr Q1 ⟨zFr_w r4 (by decide), fun u _ _ => ⟨fun j _ => r7 j u, fun i => zFr_gA r4 (by decide) u i⟩, zS4_abort (N := N) (peer := g4 D.2 4) (own := g2 D.2 8) (pp := g2 D.2 10) hc hb 6 0 N za rfl (zS4_rf Ta) _ _ r1, zFr_w r5 (by decide)⟩, zK7_tr K7a (fun u => ⟨fun j _ => r7 j u, fun i => zFr_gA r4 (by decide) u i⟩), zKm_tr Kma (zKm_fr r5 (by decide) r6)⟩
    · rw [hr, if_neg (by decide), q0, zc_e, zc_hasAddress Ta hc _ hb hN, zc_e, ha, if_neg (by decide), q4, zc_e, q8, zc_e, q10, zc_e]
      show zc (fX11_abortAsking_3 N N b (g4 D.2 4) (g2 D.2 8) (g2 D.2 10) (Int32.ofNat 0) za) _ = _
      rw [r1, zc_e]
    · show zc (fX19_act_3 N N 0 b (g4 D.2 0) (g4 D.2 4) (g2 D.2 8) (g2 D.2 10) (Int32.ofNat 0) wa) _ = _
      rw [r2, zc_e]
  · have no : tr T b = true ∨ tha T b (g4 D.2 0) = false := by
      by_cases r : tr T b = true
      · exact Or.inl r
      · right
        have r' : tr T b = false := by simpa using r
        by_cases a : tha T b (g4 D.2 0) = true
        · exact absurd ⟨r', a⟩ yes
        · simpa using a
    refine ⟨za, wa, ?_, ?_, P1, Q1, K7a, Kma⟩
    · by_cases r : tr T b = true
      · rw [r, if_pos (by decide)]
      · have r' : tr T b = false := by simpa using r
        rw [r', if_neg (by decide), q0, zc_e, zc_hasAddress Ta hc _ hb hN, zc_e, no.resolve_left r, if_pos (by rfl)]
    · show zc (fX19_act_3 N N 0 b (g4 D.2 0) (g4 D.2 4) (g2 D.2 8) (g2 D.2 10) (Int32.ofNat 0) wa) _ = _
      rw [zm_actNo Ma hc hb no hN 6 0 N rfl hN, zc_e]
