/-! the model: a datagram is sent to a station, or waits -/
theorem zm_knows {w : St} {T : Tp} {E : Ev} {g : Sg} {q s N : Nat} (hH : zHm w T g) (hHw : zHw T E g) (hE : zEm w T E) (hw : zEw T E) (hq : tv T q) (hs : s < 8) : fX19_knows N 0 q (Int32.ofNat s) w = some (zbi (nKnows E g q s), w) := by
  have h1 := hH q s hq hs
  have h2 := hHw q s hq hs
  have h3 := hw.1
  unfold fX19_knows nKnows
  rw [zkk (by omega) (by omega), zoC (by omega), h1, hE.1]
  by_cases c : gH g q s = 0
  · rw [if_pos c, show (-1000000 : Int32) = -(Int32.ofNat 1000000) from rfl, Int32.sub_neg, zo_add, show (2500 : Int32) = Int32.ofNat 2500 from rfl, if_pos (by rw [zo_lt (by omega) (by omega)]; omega), c]
    rfl
  · rw [if_neg c, zo_sub h2, show (2500 : Int32) = Int32.ofNat 2500 from rfl]
    have c1 : 0 < gH g q s := by omega
    by_cases c2 : eN E - gH g q s ≤ 2500
    · rw [if_neg (by rw [zo_lt (by omega) (by omega)]; omega)]
      simp [zbi, c1, c2]
    · rw [if_pos (by rw [zo_lt (by omega) (by omega)]; omega)]
      simp [zbi, c2]
theorem hold_push {X : List Nat} {ms : List (Option Nat)} {mw : Nat → List Nat} {q c : Nat} (hq : q < 192) : (hold (c :: X) ms mw).Perm (hold X ms (zupd mw q (mw q ++ [c]))) := by
  have hp : ((zupd mw q (mw q ++ [c])) q).Perm (c :: mw q) := by
    rw [zupd_s]
    exact List.perm_append_comm
  exact (hold_upd (X := X) (ms := ms) (mw := zupd mw q (mw q ++ [c])) (mw' := mw) hq (fun p hp => (zupd_n hp).symm) hp).symm
/-- a copy waits -/
theorem zm_pushN {w : St} {T : Tp} {K : Int32 → Int32 → Int32 → Prop} {g : Sg} {X TS TA TB : List Nat} {q s c : Nat} {D : Dg} (hc : zTc T) (hq : tv T q) (h : zMd w T K g (c :: X) TS TA TB) (hl : (gW g q).length < 17) (hDw : zDw D) (hD : zMD w T K c D) : zMd (zsI (zsA (zsA w 170 q (gW g q).length (Int32.ofNat c)) 171 q (gW g q).length (Int32.ofNat s)) 18 12 q (Int32.ofNat ((gW g q).length + 1))) T K (sW g (zupd (gW g) q (gW g q ++ [dWait D s]))) X TS TA TB ∧ zgI w 18 12 q = Int32.ofNat (gW g q).length := by
  obtain ⟨h1, h2, ms, mw, h3, h4, h5⟩ := h
  have f : zFr 0xc0000000000000000000000000000000000000000000001000000000000000000000000000000000000000000000000000000000000000000000000000000000000000000000000000000000000000000000000000000000000000000000000000000000000000000000000000000000000000000000000000000000000000000000000000000000000000000000000000000000000000000000000000000000000000000000000000 w (zsI (zsA (zsA w 170 q (gW g q).length (Int32.ofNat c)) 171 q (gW g q).length (Int32.ofNat s)) 18 12 q (Int32.ofNat ((gW g q).length + 1))) := zFr_I (zFr_A (zFr_A (zFr_rf _ _) (by decide)) (by decide)) (by decide)
  have kk : ∀ H, zKm H w (zsI (zsA (zsA w 170 q (gW g q).length (Int32.ofNat c)) 171 q (gW g q).length (Int32.ofNat s)) 18 12 q (Int32.ofNat ((gW g q).length + 1))) := fun H => zKm_fr f (by decide) (fun _ _ _ => rfl)
  obtain ⟨l1, l2, l3, l4⟩ := h4.1 q hq
  have a170 : ∀ p j, zgA (zsI (zsA (zsA w 170 q (gW g q).length (Int32.ofNat c)) 171 q (gW g q).length (Int32.ofNat s)) 18 12 q (Int32.ofNat ((gW g q).length + 1))) 170 p j = if p = q ∧ j = (gW g q).length then Int32.ofNat c else zgA w 170 p j := fun p j => by
    rw [zgA_sI, zgA_sA, if_neg (by simp), zgA_sA]
    by_cases e : p = q ∧ j = (gW g q).length
    · rw [if_pos ⟨rfl, e⟩, if_pos e]
    · rw [if_neg (fun y => e y.2), if_neg e]
  have a171 : ∀ p j, zgA (zsI (zsA (zsA w 170 q (gW g q).length (Int32.ofNat c)) 171 q (gW g q).length (Int32.ofNat s)) 18 12 q (Int32.ofNat ((gW g q).length + 1))) 171 p j = if p = q ∧ j = (gW g q).length then Int32.ofNat s else zgA w 171 p j := fun p j => by
    rw [zgA_sI, zgA_sA]
    by_cases e : p = q ∧ j = (gW g q).length
    · rw [if_pos ⟨rfl, e⟩, if_pos e]
    · rw [if_neg (fun y => e y.2), if_neg e, zgA_sA, if_neg (by simp)]
  refine ⟨⟨zTm_fr (g := g) f (by decide) h1, zCm_fr (g := g) f (by decide) h2, ms, zupd mw q (mw q ++ [c]), ?_, ⟨fun p hp => ?_, fun p hp => ?_⟩, ?_⟩, l3⟩
  · exact zFm_cg (fun i => zFr_gA f (by decide) 0 i) (zFr_gI f (by decide) (by decide) 0) (fun e D he => zKm_MD (kk (hold X ms mw)) (hold_mem.mpr (Or.inr (Or.inl he)))) h3
  · by_cases e : p = q
    · subst e
      have e1 : gW (sW g (zupd (gW g) p (gW g p ++ [dWait D s]))) p = gW g p ++ [dWait D s] := zupd_s _ _ _
      rw [e1, zupd_s]
      refine ⟨by simp [l1], by simp; omega, ?_, fun i G d hG hd => ?_⟩
      · rw [zgI_sI, if_pos ⟨rfl, rfl, rfl⟩, List.length_append]; rfl
      · rw [a170, a171]
        rw [List.getElem?_append] at hG hd
        by_cases y : i < (gW g p).length
        · rw [if_pos y] at hG
          rw [if_pos (by rw [l1]; exact y)] at hd
          rw [if_neg (fun z => by have := z.2; omega), if_neg (fun z => by have := z.2; omega)]
          obtain ⟨b1, b2, b3⟩ := l4 i G d hG hd
          exact ⟨b1, b2, zKm_MD (kk (mw p)) (List.mem_of_getElem? hd) b3⟩
        · rw [if_neg y] at hG
          rw [if_neg (by rw [l1]; exact y), l1] at hd
          have hi0 : i - (gW g p).length = 0 := by
            have := (List.getElem?_eq_some_iff.mp hG).1
            simpa using this
          rw [hi0] at hG hd
          obtain rfl : dWait D s = G := by simpa using hG
          obtain rfl : c = d := by simpa using hd
          rw [if_pos ⟨rfl, by omega⟩, if_pos ⟨rfl, by omega⟩]
          exact ⟨rfl, rfl, zMD_cg (w := w) (d := c) (D := D) hD.1.1 (fun j hj => (kk [c]).1 c j List.mem_cons_self hj) (kk [c]).2.1 (fun a b => (kk [c]).2.2.2 175 a b) (kk [c]).2.2.1 rfl (dCut_0 hDw _ _ _) hD⟩
    · have e1 : gW (sW g (zupd (gW g) q (gW g q ++ [dWait D s]))) p = gW g p := zupd_n e
      rw [e1, zupd_n e]
      refine zWqm_cg ?_ (fun i => ?_) (fun i => ?_) (fun e' D he => zKm_MD (kk (hold X ms mw)) (hold_mem.mpr (Or.inr (Or.inr ⟨p, tv_192 hc hp, he⟩)))) (h4.1 p hp)
      · rw [zgI_sI, if_neg (fun y => e y.2.2)]; rfl
      · rw [a170, if_neg (fun y => e y.1)]
      · rw [a171, if_neg (fun y => e y.1)]
  · have e : p ≠ q := fun y => hp (by rw [y]; exact hq)
    rw [zupd_n e]
    exact h4.2 p hp
  · exact zMp_fr f (by decide) (zMp_perm (hold_push (tv_192 hc hq)) h5)
/-- of too many that wait the oldest is gone -/
theorem zm_deliver102 {w : St} {T : Tp} {E : Ev} {K : Int32 → Int32 → Int32 → Prop} {g : Sg} {X TS TA TB : List Nat} {q s N : Nat} {D : Dg} (hT : zTM w T) (hc : zTc T) (hE : zEm w T E) (hw : zEw T E) (hd : zMd w T K (sW g (zupd (gW g) q (gW g q ++ [dWait D s]))) X TS TA TB) (hA : zAm w T g) (hH : zHm w T g) (hAw : zAw T E g) (hq : tv T q) (hs : s < 8) (hl : (gW g q).length ≤ 16) (hWw : ∀ G, G ∈ gW g q → wTo G < 8 ∧ G.1 11 = Int32.ofNat (wTo G)) (hasked : ∀ G, G ∈ gW g q ++ [dWait D s] → nAsked g q (wTo G) = true) (hN : 17 < N) : ∃ w', fX19_deliver_102 N 0 q w = some (0, w') ∧ zMV w' T E (nWait E g q s D) K X TS TA TB ∧ zKm X w w' := by
  have e1 : gW (sW g (zupd (gW g) q (gW g q ++ [dWait D s]))) q = gW g q ++ [dWait D s] := zupd_s _ _ _
  obtain ⟨ms0, mw0, hF0, hW0, hP0⟩ := id hd.2.2
  have hWq := hW0.1 q hq
  rw [e1] at hWq
  have hlen : (gW g q ++ [dWait D s]).length = (gW g q).length + 1 := by simp
  have e12 : zgI w 18 12 q = Int32.ofNat ((gW g q).length + 1) := by rw [hWq.2.2.1, hlen]
  unfold fX19_deliver_102 nWait
  rw [e12, show (16 : Int32) = Int32.ofNat 16 from rfl]
  by_cases c : (gW g q).length < 16
  · rw [if_pos (by rw [zo_le (by omega) (by omega)]; omega), if_pos c]
    exact ⟨w, rfl, ⟨hT, hc, hE, hw, hd, hA, hH⟩, zKm_rf X w⟩
  rw [if_neg (by rw [zo_le (by omega) (by omega)]; omega), if_neg c]
  have hWall : ∀ G, G ∈ gW g q ++ [dWait D s] → wTo G < 8 ∧ G.1 11 = Int32.ofNat (wTo G) := by
    intro G hG
    rcases List.mem_append.mp hG with h | h
    · exact hWw G h
    · obtain rfl : G = dWait D s := by simpa using h
      have : wTo (dWait D s) = s := zoC (by omega)
      rw [this]
      exact ⟨hs, rfl⟩
  obtain ⟨o, W', hoW⟩ : ∃ o W', gW g q ++ [dWait D s] = o :: W' := by
    cases hh : gW g q with
    | nil => exact ⟨_, _, rfl⟩
    | cons a l => exact ⟨a, l ++ [dWait D s], rfl⟩
  rw [hoW] at hWq hlen hWall hasked hd e1 ⊢
  dsimp only
  simp only [List.length_cons] at hlen
  have ho := hWall o List.mem_cons_self
  -- waitsFor[0]
  have e171 : zgA w 171 q 0 = Int32.ofNat (wTo o) := by
    obtain ⟨l1, l2, l3, l4⟩ := hWq
    have hlt : 0 < (o :: W').length := by simp
    have := (l4 0 o _ rfl (List.getElem?_eq_getElem (by rw [l1]; exact hlt))).2.1
    rw [this, ho.2]
  obtain ⟨w1, d, t1, t2, t3, t4, t5⟩ := zm_takeN (N := N) (j := 0) hc hq hd (by rw [e1]; simp) (by omega)
  have t1 : fX18_takeWaiting N q (0 : Int32) w = some (Int32.ofNat d, w1) := t1
  have f1 : zFr mX18_takeWaiting w w1 := wX18_takeWaiting (Nat.and_self _) (zFr_rf _ _) _ _ t1
  obtain ⟨w2, r1, r2, r3, r4⟩ := zm_dropN (N := N) hc t4.2.2
  have f12 : zFr (mX18_takeWaiting ||| mX19_drop) w w2 := zFr_tr (zFr_w f1 (by decide)) (zFr_w r4 (by decide))
  let g2 : Sg := sW g (zupd (gW g) q W')
  have eg2 : sW (sW g (zupd (gW g) q (o :: W'))) (zupd (gW (sW g (zupd (gW g) q (o :: W')))) q ((gW (sW g (zupd (gW g) q (o :: W'))) q).eraseIdx 0)) = g2 := by
    rw [e1]
    show sW g (zupd (zupd (gW g) q (o :: W')) q ((o :: W').eraseIdx 0)) = _
    rw [zupd_zupd]
    rfl
  rw [eg2] at t4 r2
  have d2 : zMd w2 T K g2 X TS TA TB := ⟨zTm_fr r4 (by decide) t4.1, zCm_fr r4 (by decide) t4.2.1, r2⟩
  have k2 : zKm X w w2 := zKm_tr t5 (zKm_sub (fun _ h => List.mem_cons_of_mem _ h) r3)
  have T2 := zTM_fr f12 (by decide) hT
  have E2 := zEm_fr f12 (by decide) hE
  have A2 : zAm w2 T g := zAm_fr f12 (by decide) hA
  have H2 : zHm w2 T g := zHm_fr f12 (by decide) hH
  let w3 : St := zsI w2 19 27 0 (Int32.ofNat (eN E))
  have f3 : zFr 0x80000000000000000000000000000000000000000000000000000000000000000000000000000000000000000000000000000000000000000000000000000000000000000000000000000000000000000000000000000000000000000000000000000000000000000000000000000000000000000000000000000000000000000000000000000000000000000000000000000000000000000000000 w2 w3 := zFr_I (zFr_rf _ _) (by decide)
  have d3 : zMd w3 T K (sS g2 (eN E)) X TS TA TB := zMd_now hc d2
  have k3 : zKm X w w3 := zKm_tr k2 (zKm_fr f3 (by decide) (fun _ _ _ => rfl))
  have T3 := zTM_fr f3 (by decide) T2
  have E3 := zEm_fr f3 (by decide) E2
  have A3 : zAm w3 T g := zAm_fr f3 (by decide) A2
  have H3 : zHm w3 T g := zHm_fr f3 (by decide) H2
  obtain ⟨ms3, mw3, hF3, hW3, hP3⟩ := id d3.2.2
  have hWq3 := hW3.1 q hq
  have eW3 : gW (sS g2 (eN E)) q = W' := zupd_s _ _ _
  rw [eW3] at hWq3
  have hsw := zm_someWaitFor (N := N) hWq3 (fun G hG => hWall G (List.mem_cons_of_mem _ hG)) ho.1 hN
  unfold fX19_stir
  rw [zk_0 (by decide) (by decide), zl_e, show (Int32.toNatClampNeg (0 : Int32)) = 0 from rfl, e171, t1, zc_e, r1, zc_e, zl_e, zc_e, E2.1]
  show ∃ w', zc (fX18_someWaitFor N q (Int32.ofNat (wTo o)) w3) _ = _ ∧ _ ∧ _
  rw [hsw, zc_e]
  by_cases ca : W'.any (fun x => wTo x == wTo o) = true
  · rw [ca, if_pos (by decide), if_pos rfl]
    exact ⟨w3, rfl, ⟨T3, hc, E3, hw, d3, A3, H3⟩, k3⟩
  · have ca' : W'.any (fun x => wTo x == wTo o) = false := by simpa using ca
    rw [ca', if_neg (by decide), if_neg (by decide), zm_askingOf (N := N) A3 hAw hq ho.1 (by omega), zc_e]
    have hao : nAsked g q (wTo o) = true := hasked o List.mem_cons_self
    cases hx : aix (gA g q) (wTo o) with
    | none =>
      have := aix_none hx
      have hao : (gA g q).any (fun a => a.1 == wTo o) = true := hao
      rw [this] at hao; cases hao
    | some k =>
      obtain ⟨w4, a1, a2, a3, a4, a5⟩ := zm_endAsking (N := N) A3 hAw hq hx (by omega)
      have f4 : zFr mX18_endAsking w3 w4 := wX18_endAsking (Nat.and_self _) (zFr_rf _ _) _ _ a1
      dsimp only
      rw [a1, zc_e]
      exact ⟨w4, rfl, ⟨zTM_fr f4 (by decide) T3, hc, zEm_fr f4 (by decide) E3, hw, ⟨zTm_fr f4 (by decide) d3.1, zCm_fr f4 (by decide) d3.2.1, zNm_fr f4 (by decide) hc a5 d3.2.2⟩, a2, zHm_fr f4 (by decide) H3⟩, zKm_tr k3 (zKm_fr f4 (by decide) a5)⟩
theorem zm_ask {w : St} {T : Tp} {E : Ev} {K : Int32 → Int32 → Int32 → Prop} {g : Sg} {X TS TA TB : List Nat} {q s N : Nat} (hT : zTM w T) (hc : zTc T) (hE : zEm w T E) (hw : zEw T E) (hd : zMd w T K g X TS TA TB) (hq : tv T q) (hs : s < 8) (hX : X.length ≤ 100) (hN : 64 < N) : ∃ w', fX19_ask N 0 q (Int32.ofNat s) w = some (0, w') ∧ zMd w' T K (nAsk E g q s) X TS TA TB ∧ zKm X w w' ∧ zFr mX19_ask w w' := by
  obtain ⟨t0, t2, t1, t3⟩ := hT.2.2.2 _ hq
  have tn' := (hT.2.1.1 _ hq.1).2.1
  obtain ⟨w', p1, p2, p3⟩ := zm_put (N := N) (D := nQ q (dNote q 5 (zad (8 * (q / 8) + s))) (-1) 0 28) (to := -1) (kind := 0) (addr := zad (8 * (q / 8) + s)) (dv := -1) hT hc hE hw hq hX hd rfl rfl rfl (Or.inl ⟨rfl, rfl, rfl, rfl⟩) hN
  have run : fX19_ask N 0 q (Int32.ofNat s) w = some (0, w') := by
    unfold fX19_ask
    rw [zl_e, t2, zd_e, tn', zad_e (tv_24 hc hq) hs, p1, zc_e]
  exact ⟨w', run, p2, p3, wX19_ask (Nat.and_self _) (zFr_rf _ _) _ _ run⟩
theorem zm_deliver {w : St} {T : Tp} {E : Ev} {K : Int32 → Int32 → Int32 → Prop} {g : Sg} {X TS TA TB : List Nat} {q s d N : Nat} {D : Dg} (h : zMV w T E g K X TS TA TB) (hg : zGw T E g) (hq : tv T q) (hs : s < 8) (hd : d ∈ X) (hX : X.length < 99) (hDw : zDw D) (hk : ¬ D.1 2 = 5 ∧ ¬ D.1 2 = 6) (hl : (gW g q).length ≤ 16) (hD : zMD w T K d D) (hN : 1481 < N) : ∃ w', fX19_deliver N 0 q (Int32.ofNat s) (Int32.ofNat d) w = some (0, w') ∧ zMV w' T E (nHand E (tw T q) g q s D) K X TS TA TB ∧ zKm X w w' := by
  obtain ⟨hT, hc, hE, hw, hdd, hA, hH⟩ := h
  obtain ⟨gW', gA', gH', gWA, g1⟩ := hg
  have hn := hw.1
  unfold fX19_deliver nHand
  rw [zm_knows (N := N) hH gH' hE hw hq hs, zc_e]
  by_cases ck : nKnows E g q s = true
  · rw [ck, if_neg (by decide), if_pos rfl]
    obtain ⟨w', p1, p2, p3⟩ := zm_carry (N := N) (to := Int32.ofNat s) hT hc hE hw hq hd (by omega) hDw hk hdd hD hN
    have f : zFr mX19_carry w w' := wX19_carry (Nat.and_self _) (zFr_rf _ _) _ _ p1
    have hcW := nCarry_W E (tw T q) g q (Int32.ofNat s) D
    rw [p1, zc_e]
    refine ⟨w', rfl, ⟨zTM_fr f (by decide) hT, hc, zEm_fr f (by decide) hE, hw, p2, ?_, ?_⟩, p3⟩
    · have := zAm_fr f (by decide) hA
      unfold zAm at this ⊢
      rw [hcW.2.1]; exact this
    · have := zHm_fr f (by decide) hH
      unfold zHm at this ⊢
      rw [hcW.2.2]; exact this
  · have ck' : nKnows E g q s = false := by simpa using ck
    have hWq := hdd.2.2.choose_spec.choose_spec.2.1.1 q hq
    have hsw := zm_someWaitFor (N := N) hWq (fun G hG => (gW' q hq G hG).2) hs (by omega)
    rw [← gWA q s hq] at hsw
    rw [ck', if_pos (show zbi false = 0 from rfl), if_neg (show ¬ (false = true) by decide), hsw, zc_e]
    obtain ⟨w1, c, c1, c2, c3, c4, c5, c6, c7⟩ := zm_copyN (N := N) hc (by omega) hdd.2.2 hd (by omega)
    have d1 : zMd w1 T K g (c :: X) TS TA TB := ⟨zTm_fr c7 (by decide) hdd.1, zCm_fr c7 (by decide) hdd.2.1, c4⟩
    have hDc : zMD w1 T K c D := zMD_cg (w := w) (d := d) (D := D) c2 c5 c6.2.1 (fun a b => c6.2.2.2 175 a b) c6.2.2.1 rfl (fun _ _ => rfl) hD
    obtain ⟨p1, p2⟩ := zm_pushN (s := s) hc hq d1 (by omega) hDw hDc
    have p2w : zgI w 18 12 q = Int32.ofNat (gW g q).length := hWq.2.2.1
    let w2 : St := zsI (zsA (zsA w1 170 q (gW g q).length (Int32.ofNat c)) 171 q (gW g q).length (Int32.ofNat s)) 18 12 q (Int32.ofNat ((gW g q).length + 1))
    have p1 : zMd w2 T K (sW g (zupd (gW g) q (gW g q ++ [dWait D s]))) X TS TA TB := p1
    have f2 : zFr 0xc0000000000000000000000000000000000000000000001000000000000000000000000000000000000000000000000000000000000000000000000000000000000000000000000000000000000000000000000000000000000000000000000000000000000000000000000000000000000000000000000000000000000000000000000000000000000000000000000000000000000000000000000000000000000000000000000000 w1 w2 := zFr_I (zFr_A (zFr_A (zFr_rf _ _) (by decide)) (by decide)) (by decide)
    have f02 : zFr 0x91c0000000000000000000000000000000040000000000001000000000000000000000000000000000000000000000000000000000000000000000000000000000000000000000000000000000000000000000000000000000000000000000000000000000000000000000000000000000000000000000000000000000000000000000000000000000000000000000000000000000000000000000000000000000000000000000000000 w w2 := zFr_tr (zFr_w c7 (by decide)) (zFr_w f2 (by decide))
    have k2 : zKm X w w2 := zKm_tr c6 (zKm_fr f2 (by decide) (fun _ _ _ => rfl))
    have T2 := zTM_fr f02 (by decide) hT
    have E2 := zEm_fr f02 (by decide) hE
    have A2 : zAm w2 T g := zAm_fr f02 (by decide) hA
    have H2 : zHm w2 T g := zHm_fr f02 (by decide) hH
    have p2' : zgI (zsA w1 170 q (gW g q).length (Int32.ofNat c)) 18 12 q = Int32.ofNat (gW g q).length := p2
    have p2'' : zgI (zsA (zsA w1 170 q (gW g q).length (Int32.ofNat c)) 171 q (gW g q).length (Int32.ofNat s)) 18 12 q = Int32.ofNat (gW g q).length := p2
    rw [c1, zc_e, p2w, zkk (by omega) (by omega), zl_e, zoC (by omega), p2', zkk (by omega) (by omega), zl_e, zoC (by omega), p2'', zl_e, zo_i1]
    have hWs : wTo (dWait D s) = s := zoC (by omega)
    have hany : ∀ G, G ∈ gW g q → nAsked g q (wTo G) = true := fun G hG => by
      rw [gWA q (wTo G) hq]
      exact List.any_eq_true.mpr ⟨G, hG, by simp⟩
    by_cases ca : nAsked g q s = true
    · rw [ca, if_pos (by decide), if_pos rfl]
      obtain ⟨w', r1, r2, r3⟩ := zm_deliver102 (N := N) T2 hc E2 hw p1 A2 H2 gA' hq hs hl (fun G hG => (gW' q hq G hG).2) (fun G hG => by
        rcases List.mem_append.mp hG with h | h
        · exact hany G h
        · obtain rfl : G = dWait D s := by simpa using h
          rw [hWs]; exact ca) (by omega)
      exact ⟨w', r1, r2, zKm_tr k2 r3⟩
    · have ca' : nAsked g q s = false := by simpa using ca
      rw [ca', if_neg (by decide), if_neg (show ¬ (false = true) by decide)]
      -- an asking begins
      let g' : Sg := sA g (zupd (gA g) q (gA g q ++ [(s, eN E)]))
      obtain ⟨a9, ar⟩ := A2 q hq
      have hAw' : zAw T E g' := by
        intro p hp
        by_cases e : p = q
        · subst e
          have e1 : gA g' p = gA g p ++ [(s, eN E)] := zupd_s _ _ _
          rw [e1]
          obtain ⟨hnd, hin⟩ := gA' p hp
          refine ⟨?_, fun a ha => ?_⟩
          · rw [List.map_append]
            refine List.nodup_append.mpr ⟨hnd, by simp, ?_⟩
            intro x hx y hy
            obtain rfl : y = s := by simpa using hy
            rintro rfl
            obtain ⟨a, ha, rfl⟩ := List.mem_map.mp hx
            have : nAsked g p a.1 = true := List.any_eq_true.mpr ⟨a, ha, by simp⟩
            rw [this] at ca'; cases ca'
          · rcases List.mem_append.mp ha with ha | ha
            · exact hin a ha
            · obtain rfl : a = (s, eN E) := by simpa using ha
              exact ⟨hs, g1, Nat.le_refl _⟩
        · have e1 : gA g' p = gA g p := zupd_n e
          rw [e1]
          exact gA' p hp
      have hl8 := zAw_len hAw' hq
      have e1 : gA g' q = gA g q ++ [(s, eN E)] := zupd_s _ _ _
      rw [e1, List.length_append] at hl8
      have hlt : (gA g q).length < 8 := by simp only [List.length_cons, List.length_nil] at hl8; omega
      have a9a : zgI (zsA w2 168 q (gA g q).length (Int32.ofNat s)) 18 9 q = Int32.ofNat (gA g q).length := a9
      have a9b : zgI (zsA (zsA w2 168 q (gA g q).length (Int32.ofNat s)) 169 q (gA g q).length (Int32.ofNat (eN E))) 18 9 q = Int32.ofNat (gA g q).length := a9
      have enow : zgI (zsA w2 168 q (gA g q).length (Int32.ofNat s)) 19 24 0 = Int32.ofNat (eN E) := E2.1
      show ∃ w', (zk (zgI w2 18 9 q) 8 <| _) = _ ∧ _ ∧ _
      rw [a9, zkk (by omega) (by omega), zl_e, zoC (by omega), a9a, zkk (by omega) (by omega), zl_e, zoC (by omega), enow, a9b, zl_e, zo_i1]
      let w3 : St := zsI (zsA (zsA w2 168 q (gA g q).length (Int32.ofNat s)) 169 q (gA g q).length (Int32.ofNat (eN E))) 18 9 q (Int32.ofNat ((gA g q).length + 1))
      have f3 : zFr 0x30000000000000000000000000000000000000000000000200000000000000000000000000000000000000000000000000000000000000000000000000000000000000000000000000000000000000000000000000000000000000000000000000000000000000000000000000000000000000000000000000000000000000000000000000000000000000000000000000000000000000000000000000000000000000000000000000 w2 w3 := zFr_I (zFr_A (zFr_A (zFr_rf _ _) (by decide)) (by decide)) (by decide)
      have k3 : zKm X w2 w3 := zKm_fr f3 (by decide) (fun _ _ _ => rfl)
      have a168 : ∀ p j, zgA w3 168 p j = if p = q ∧ j = (gA g q).length then Int32.ofNat s else zgA w2 168 p j := fun p j => by
        show zgA (zsI (zsA (zsA w2 168 q (gA g q).length (Int32.ofNat s)) 169 q (gA g q).length (Int32.ofNat (eN E))) 18 9 q _) 168 p j = _
        rw [zgA_sI, zgA_sA, if_neg (by simp), zgA_sA]
        by_cases e : p = q ∧ j = (gA g q).length
        · rw [if_pos ⟨rfl, e⟩, if_pos e]
        · rw [if_neg (fun y => e y.2), if_neg e]
      have a169 : ∀ p j, zgA w3 169 p j = if p = q ∧ j = (gA g q).length then Int32.ofNat (eN E) else zgA w2 169 p j := fun p j => by
        show zgA (zsI (zsA (zsA w2 168 q (gA g q).length (Int32.ofNat s)) 169 q (gA g q).length (Int32.ofNat (eN E))) 18 9 q _) 169 p j = _
        rw [zgA_sI, zgA_sA]
        by_cases e : p = q ∧ j = (gA g q).length
        · rw [if_pos ⟨rfl, e⟩, if_pos e]
        · rw [if_neg (fun y => e y.2), if_neg e, zgA_sA, if_neg (by simp)]
      have A3 : zAm w3 T g' := by
        intro p hp
        by_cases e : p = q
        · subst e
          rw [e1]
          refine ⟨?_, fun i a ha => ?_⟩
          · show zgI (zsI _ 18 9 p _) 18 9 p = _
            rw [zgI_sI, if_pos ⟨rfl, rfl, rfl⟩, List.length_append]; rfl
          · rw [a168, a169]
            rw [List.getElem?_append] at ha
            by_cases y : i < (gA g p).length
            · rw [if_pos y] at ha
              rw [if_neg (fun z => by have := z.2; omega), if_neg (fun z => by have := z.2; omega)]
              exact ar i a ha
            · rw [if_neg y] at ha
              have hi0 : i - (gA g p).length = 0 := by
                have := (List.getElem?_eq_some_iff.mp ha).1
                simpa using this
              rw [hi0] at ha
              obtain rfl : (s, eN E) = a := by simpa using ha
              rw [if_pos ⟨rfl, by omega⟩, if_pos ⟨rfl, by omega⟩]
              exact ⟨rfl, rfl⟩
        · have e2 : gA g' p = gA g p := zupd_n e
          rw [e2]
          obtain ⟨b9, br⟩ := A2 p hp
          refine ⟨?_, fun i a ha => ?_⟩
          · show zgI (zsI _ 18 9 q _) 18 9 p = _
            rw [zgI_sI, if_neg (fun z => e z.2.2)]; exact b9
          · rw [a168, a169, if_neg (fun z => e z.1), if_neg (fun z => e z.1)]
            exact br i a ha
      have T3 := zTM_fr f3 (by decide) T2
      have E3 := zEm_fr f3 (by decide) E2
      have H3 : zHm w3 T g := zHm_fr f3 (by decide) H2
      have d3 : zMd w3 T K (sW g' (zupd (gW g') q (gW g' q ++ [dWait D s]))) X TS TA TB := by
        have := zNm_fr f3 (by decide) hc (fun _ _ _ => rfl) p1.2.2
        exact ⟨zTm_fr f3 (by decide) p1.1, zCm_fr f3 (by decide) p1.2.1, this⟩
      obtain ⟨w4, q1, q2, q3, q4⟩ := zm_ask (N := N) T3 hc E3 hw d3 hq hs (by omega) (by omega)
      show ∃ w', zc (fX19_ask N 0 q (Int32.ofNat s) w3) _ = _ ∧ _ ∧ _
      rw [q1, zc_e]
      have hcom : nAsk E (sW g' (zupd (gW g') q (gW g' q ++ [dWait D s]))) q s = sW (nAsk E g' q s) (zupd (gW g') q (gW g' q ++ [dWait D s])) := nPut_sW _ _ _ _ _
      have hnW := nPut_W E g' q (nQ q (dNote q 5 (zad (8 * (q / 8) + s))) (-1) 0 28)
      have hgW : gW (nAsk E g' q s) = gW g := hnW.1
      have hgA : gA (nAsk E g' q s) = gA g' := hnW.2.1
      have hgH : gH (nAsk E g' q s) = gH g := hnW.2.2.2
      have d4 : zMd w4 T K (sW (nAsk E g' q s) (zupd (gW (nAsk E g' q s)) q (gW (nAsk E g' q s) q ++ [dWait D s]))) X TS TA TB := by
        rw [hgW]
        rw [hcom] at q2
        exact q2
      have A4 : zAm w4 T (nAsk E g' q s) := by
        have := zAm_fr q4 (by decide) A3
        unfold zAm at this ⊢
        rw [hgA]; exact this
      have H4 : zHm w4 T (nAsk E g' q s) := by
        have := zHm_fr q4 (by decide) H3
        unfold zHm at this ⊢
        rw [hgH]; exact this
      have hAw4 : zAw T E (nAsk E g' q s) := by
        unfold zAw at hAw' ⊢
        rw [hgA]; exact hAw'
      have hask : ∀ t, nAsked (nAsk E g' q s) q t = ((gA g q).any (fun a => a.1 == t) || (s == t)) := by
        intro t
        unfold nAsked
        rw [hgA, e1, List.any_append]
        simp
      obtain ⟨w', r1, r2, r3⟩ := zm_deliver102 (N := N) (zTM_fr q4 (by decide) T3) hc (zEm_fr q4 (by decide) E3) hw d4 A4 H4 hAw4 hq hs (by rw [hgW]; exact hl) (by rw [hgW]; exact fun G hG => (gW' q hq G hG).2) (by
        rw [hgW]
        intro G hG
        rw [hask]
        rcases List.mem_append.mp hG with h | h
        · have := hany G h
          unfold nAsked at this
          rw [this]; rfl
        · obtain rfl : G = dWait D s := by simpa using h
          rw [hWs]; simp) (by omega)
      exact ⟨w', r1, r2, zKm_tr k2 (zKm_tr k3 (zKm_tr q3 r3))⟩
