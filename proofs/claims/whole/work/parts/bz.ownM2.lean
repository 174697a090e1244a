/-! the model: ownAdvert -/
theorem znever {n : Nat} : Int32.ofNat n - (-1000000 : Int32) = Int32.ofNat (n + 1000000) := by
  rw [show (-1000000 : Int32) = -(Int32.ofNat 1000000) from rfl, Int32.sub_neg, zo_add]
theorem zAdw_num {w : St} {x of_ num num' : Nat} {L : List En} {w' : St} (hx : x < 2400) (hA : ∀ k, k < 76 → mad w' x k = if k = 1 then Int32.ofNat num' else mad w x k) (h : zAdw w x of_ num L) : zAdw w' x of_ num' L := by
  obtain ⟨⟨h0, h1⟩, nN, ⟨n1, n2⟩, h2, h3, h4, h5⟩ := h
  refine ⟨⟨?_, ?_⟩, nN, ⟨n1, n2⟩, ?_, ?_, fun i e hi => ?_, fun k k1 k2 => ?_⟩
  · rw [hA 0 (by omega), if_neg (by omega)]; exact h0
  · rw [hA 1 (by omega), if_pos rfl]
  · rw [hA 2 (by omega), if_neg (by omega)]; exact h2
  · rw [hA 3 (by omega), if_neg (by omega)]; exact h3
  · have hi' := (List.getElem?_eq_some_iff.mp hi).1
    rw [hA _ (by omega), if_neg (by omega), hA _ (by omega), if_neg (by omega), hA _ (by omega), if_neg (by omega)]
    exact h4 i e hi
  · rw [hA k k2, if_neg (by omega)]; exact h5 k k1 k2
theorem zm_ownAdvert {w : St} {T : Tp} {E : Ev} {K : Int32 → Int32 → Int32 → Prop} {g : Sg} {X TS TB : List Nat} {tl : Nat → Nat} {b N : Nat} {s : Rs} (h : zMV w T E g K X TS (zTA w T) TB) (hX : X.length ≤ 40) (hW : ∀ q, tv T q → (gW g q).length ≤ 16) (hTT : TS.length + TB.length ≤ 4000) (hE1 : 1 ≤ eN E) (hE4 : eN E ≤ 400000) (hb : b < tb T) (hr : tr T b = true) (hTl : zTlM w T tl) (hR : zRml w T b s) (hw : zRw T E b s) (hOw : zOw b s) (hup : ∀ j, j < tp T b → zgI w 18 5 (tq T b j) = zbi (eU E (tq T b j / 8))) (hHu : ∀ n, n ∈ rH s → n.1 / 16 < tp T b ∧ eU E (tq T b (n.1 / 16) / 8) = true) (hf : zgI w 12 24 b = 0 → bLs (rB s) b = some (rDr T E tl b (fks (rH s)))) (hN : 77 < N) :
    ∃ w', fX19_ownAdvert N 0 b w = some (0, w') ∧ zMV w' T E g K X TS (zTA w' T) TB ∧ zRml w' T b (rOwn (eN E) b (rDr T E tl b (fks (rH s))) s) ∧ (∀ d D, d ∈ X → zMD w T K d D → zMD w' T K d D) ∧ (∀ k j o, ¬ (k = 12 ∧ (j = 16 ∨ j = 18 ∨ j = 23 ∨ j = 24) ∧ o = b) → ¬ (k = 19 ∧ j = 11) → zgI w' k j o = zgI w k j o) ∧
      ((zgI w' 12 24 b = zgI w 12 24 b ∧ rOwn (eN E) b (rDr T E tl b (fks (rH s))) s = s) ∨ (zgI w' 12 24 b = 0 ∧ bLs (rB (rOwn (eN E) b (rDr T E tl b (fks (rH s))) s)) b = some (rDr T E tl b (fks (rH s))))) ∧
      ((zgI w' 12 23 b = zgI w 12 23 b ∧ rB (rOwn (eN E) b (rDr T E tl b (fks (rH s))) s) = rB s) ∨ zgI w' 12 23 b = 1) ∧ (∀ x, x ∈ zTA w T → x < 2400 → ∀ k, k < 76 → mad w' x k = mad w x k) ∧ zMr b w w' := by
  have hc := h.2.1
  have hT := h.1
  have hb16 : b < 16 := Nat.lt_of_lt_of_le hb hc.1
  obtain ⟨⟨ids, mN⟩, mT, mB, m16, m17, m18⟩ := id hR
  obtain ⟨wH, wN, wT, wB, wm⟩ := id hw
  have h16 := wH.1.2.2
  obtain ⟨hD, hD22⟩ := rDr_en (E := E) hc hb (fun p hp => (hTl p hp).2) wH.1.2.1 h16
  have t0 : zgI w 12 0 b = Int32.ofNat b := (hT.2.1.2 b hb).2.1
  have hnow : zgI w 19 24 0 = Int32.ofNat (eN E) := h.2.2.1.1
  -- what it would tell
  let wa : St := zsI w 12 24 b 0
  have fa : zFr 0x1000000000000000000000000000000000000000000000000000000000000000000000000000000000000000000000000000000000000000000000000000000000000000000000000000000000000000000000000000000000000000000000000000000 w wa := zFr_I (zFr_rf _ _) (by decide)
  have Ia : ∀ k j o, ¬ (k = 12 ∧ j = 24 ∧ o = b) → zgI wa k j o = zgI w k j o := fun k j o n => by
    show zgI (zsI w 12 24 b 0) k j o = _
    rw [zgI_sI, if_neg n]
  have ha : zMV wa T E g K X TS (zTA wa T) TB := zMV_fr fa (by decide) (fun _ _ _ => rfl) h
  have mNa : zRmI wa b (rH s) ids := zRmI_cg (Ia 12 13 b (by omega)) (fun _ => rfl) (fun x _ _ => ⟨fun j _ => Ia 15 j x (by omega), fun _ _ _ => rfl⟩) mN
  obtain ⟨w2, a, r1, r2, r3, r4, r5, r6, r7, r8, r9, r10, r11, r12⟩ := zm_wouldTell (tl := tl) (N := N) ha hX hW hTT hb (fun p hp => ⟨(Ia 18 4 p (by omega)).trans (hTl p hp).1, (hTl p hp).2⟩) mNa wH.1 (fun j hj => (Ia 18 5 _ (by omega)).trans (hup j hj)) hHu (by omega)
  generalize hDD : rDr T E tl b (fks (rH s)) = D at *
  have r3 : a ∉ zTA w T := r3
  have I2 : ∀ k j o, ¬ (k = 12 ∧ j = 24 ∧ o = b) → ¬ (k = 19 ∧ j = 11) → zgI w2 k j o = zgI w k j o := fun k j o n1 n2 => (r8 k j o n2).trans (Ia k j o n1)
  have A2 : ∀ k o i, ¬ (k = 178 ∧ o = 0 ∧ 76 * a ≤ i ∧ i < 76 * a + 76) → ¬ (k = 179 ∧ o = 0 ∧ i = a) → zgA w2 k o i = zgA w k o i := fun k o i n1 n2 => r9 k o i n1 n2
  have f24 : zgI w2 12 24 b = 0 := (r8 12 24 b (by omega)).trans (by
    show zgI (zsI w 12 24 b 0) 12 24 b = 0
    rw [zgI_sI, if_pos ⟨rfl, rfl, rfl⟩])
  have K2 : zMr b w w2 := ⟨fun k j o n1 n2 n3 => I2 k j o (fun y => n1 ⟨y.1, y.2.2, by omega⟩) (fun y => n3 (by omega)), fun k o i _ _ n3 => A2 k o i (fun y => n3 (by omega)) (fun y => n3 (by omega)), fun k o i => r10 k o i, fun k o i _ => r11 k o i, fun k o i => r12 k o i⟩
  have bNew : bLs (rB (rMak (eN E) b D s)) b = some D := by
    show (bSet (rB s) b (some (max (ro s) (rh s) + 1, eN E, D)) b).map (fun a => a.2.2) = some D
    unfold bSet
    rw [if_pos rfl]; rfl
  -- the number as it is: y is w2 with another number in the new advert
  have numb : ∀ v : Int32, zMV (zsA w2 178 0 (76 * a + 1) v) T E g K X TS (a :: zTA w T) TB ∧ ∀ d D, d ∈ X → zMD w T K d D → zMD (zsA w2 178 0 (76 * a + 1) v) T K d D := fun v => by
    obtain ⟨s1, -, s3⟩ := zm_setAd (w' := zsA w2 178 0 (76 * a + 1) v) r4 r5 r2 (fun k o i n => by rw [zgA_sA, if_neg (fun q => n ⟨q.1, q.2.1, by omega, by omega⟩)]) (fun _ _ _ => rfl) (fun _ _ _ => rfl) (fun _ _ _ => rfl) (fun _ _ _ => rfl)
    exact ⟨s1, fun d D hd hD => s3 d D hd (r7 d D hd (zMD_ad (fun k _ => rfl) (fun _ _ => rfl) (fun _ _ => rfl) (fun _ _ _ _ _ => rfl) hD))⟩
  -- it is made
  generalize hMM : max (ro s) (rh s) = M at *
  have make : ∀ y : St, (y = w2 ∨ ∃ v, y = zsA w2 178 0 (76 * a + 1) v) → ∃ w', fX19_ownAdvert_146 N 0 b (Int32.ofNat a) y = some (0, w') ∧ zMV w' T E g K X TS (zTA w' T) TB ∧ zRml w' T b (rMak (eN E) b D s) ∧ (∀ d D, d ∈ X → zMD w T K d D → zMD w' T K d D) ∧ (∀ k j o, ¬ (k = 12 ∧ (j = 16 ∨ j = 18 ∨ j = 23 ∨ j = 24) ∧ o = b) → ¬ (k = 19 ∧ j = 11) → zgI w' k j o = zgI w k j o) ∧ zgI w' 12 24 b = 0 ∧ zgI w' 12 23 b = 1 ∧ (∀ x, x ∈ zTA w T → x < 2400 → ∀ k, k < 76 → mad w' x k = mad w x k) ∧ zMr b w w' := fun y hy => by
    have yI : ∀ k j o, zgI y k j o = zgI w2 k j o := fun k j o => by
      rcases hy with rfl | ⟨v, rfl⟩ <;> rfl
    let y1 : St := zsI y 12 16 b (Int32.ofNat (M + 1))
    let y2 : St := zsA y1 178 0 (76 * a + 1) (Int32.ofNat (M + 1))
    let y3 : St := zsI y2 12 18 b (Int32.ofNat (eN E))
    have I3 : ∀ k j o, zgI y3 k j o = if k = 12 ∧ j = 18 ∧ o = b then Int32.ofNat (eN E) else if k = 12 ∧ j = 16 ∧ o = b then Int32.ofNat (M + 1) else zgI w2 k j o := fun k j o => by
      show zgI (zsI (zsA (zsI y 12 16 b _) 178 0 _ _) 12 18 b _) k j o = _
      rw [zgI_sI]
      show (if _ then _ else zgI (zsI y 12 16 b _) k j o) = _
      rw [zgI_sI, yI]
    have A3 : ∀ k o i, zgA y3 k o i = if k = 178 ∧ o = 0 ∧ i = 76 * a + 1 then Int32.ofNat (M + 1) else zgA w2 k o i := fun k o i => by
      show zgA (zsA (zsI y 12 16 b _) 178 0 (76 * a + 1) _) k o i = _
      rw [zgA_sA]
      by_cases c : k = 178 ∧ o = 0 ∧ i = 76 * a + 1
      · rw [if_pos c, if_pos c]
      · rw [if_neg c, if_neg c]
        rcases hy with rfl | ⟨v, rfl⟩
        · rfl
        · show zgA (zsA w2 178 0 (76 * a + 1) v) k o i = _
          rw [zgA_sA, if_neg c]
    have L3 : ∀ k o i, zgL y3 k o i = zgL w k o i := fun k o i => by
      rcases hy with rfl | ⟨v, rfl⟩
      · exact r10 k o i
      · exact r10 k o i
    have Q3 : ∀ k o i, zgQ y3 k o i = zgQ w k o i := fun k o i => by
      rcases hy with rfl | ⟨v, rfl⟩
      · exact r11 k o i
      · exact r11 k o i
    have R3' : ∀ k o i, zgR y3 k o i = zgR w k o i := fun k o i => by
      rcases hy with rfl | ⟨v, rfl⟩
      · exact r12 k o i
      · exact r12 k o i
    have I3o : ∀ k j o, ¬ (k = 12 ∧ (j = 16 ∨ j = 18 ∨ j = 24) ∧ o = b) → ¬ (k = 19 ∧ j = 11) → zgI y3 k j o = zgI w k j o := fun k j o n1 n2 => by
      rw [I3, if_neg (fun q => n1 ⟨q.1, by omega, q.2.2⟩), if_neg (fun q => n1 ⟨q.1, by omega, q.2.2⟩)]
      exact I2 k j o (fun q => n1 ⟨q.1, by omega, q.2.2⟩) n2
    have A3o : ∀ k o i, ¬ (k = 178 ∧ o = 0 ∧ 76 * a ≤ i ∧ i < 76 * a + 76) → ¬ (k = 179 ∧ o = 0 ∧ i = a) → zgA y3 k o i = zgA w k o i := fun k o i n1 n2 => by
      rw [A3, if_neg (fun q => n1 ⟨q.1, q.2.1, by omega, by omega⟩)]; exact A2 k o i n1 n2
    -- the state with the number alone, then the two fields
    let yn : St := zsA w2 178 0 (76 * a + 1) (Int32.ofNat (M + 1))
    have fn' : zFr 0x50000000000000000000000000000000000000000000000000000000000000000000000000000000000000000000000000000000000000000000000000000000000000000000000000000000000000000000000000000000000000000000000000000 yn y3 := ⟨fun k j o _ hm => ⟨by
      rw [I3, if_neg (fun q => by obtain ⟨rfl, rfl, -⟩ := q; revert hm; decide), if_neg (fun q => by obtain ⟨rfl, rfl, -⟩ := q; revert hm; decide)]; rfl, by
      rcases hy with rfl | ⟨v, rfl⟩ <;> rfl⟩, fun k o i _ => ⟨by
      rw [A3]
      show _ = zgA (zsA w2 178 0 (76 * a + 1) _) k o i
      rw [zgA_sA], by rcases hy with rfl | ⟨v, rfl⟩ <;> rfl, by rcases hy with rfl | ⟨v, rfl⟩ <;> rfl⟩⟩
    obtain ⟨n1, n2⟩ := numb (Int32.ofNat (M + 1))
    have eTA : zTA y3 T = zTA w T := zTA_cg (fun c k _ _ => A3o 150 c k (by omega) (by omega))
    have V3 : zMV y3 T E g K X TS (a :: zTA y3 T) TB := by
      rw [eTA]
      exact zMV_fr fn' (by decide) (fun k o i => by rcases hy with rfl | ⟨v, rfl⟩ <;> rfl) n1
    have ad3 : zAdw y3 a b (M + 1) D := zAdw_num r2 (fun k hk => by
      show zgA y3 178 0 (76 * a + k) = _
      rw [A3]
      by_cases c : k = 1
      · rw [if_pos ⟨rfl, rfl, by omega⟩, if_pos c]
      · rw [if_neg (by omega), if_neg c]; rfl) r6
    have mN3 : zRmI y3 b (rH s) ids := zRmI_cg (I3o 12 13 b (by omega) (by omega)) (fun i => Q3 149 b i) (fun x _ _ => ⟨fun j _ => I3o 15 j x (by omega) (by omega), fun k i _ => A3o k x i (by omega) (by omega)⟩) mN
    have mad3 : ∀ x, x ∈ zTA w T → ∀ k, k < 76 → mad y3 x k = mad w x k := fun x hx k hk => A3o 178 0 _ (fun q => r3 (by
      have q3 := q.2.2.1
      have q4 := q.2.2.2
      have : x = a := by omega
      rw [← this]; exact hx)) (by omega)
    have mB3 : zRmB y3 b (rB s) := zRmB_cg (fun k i hk => A3o k b i (by omega) (by omega)) (fun x r r16 hx e k hk => mad3 x (zTA_mem hc hb hr r16 hx e) k hk) mB
    have K3 : zMr b w y3 := ⟨fun k j o n1 _ n3 => I3o k j o (fun q => n1 ⟨q.1, q.2.2, by omega⟩) (fun q => n3 (by omega)), fun k o i _ _ n3 => A3o k o i (fun q => n3 (by omega)) (fun q => n3 (by omega)), L3, fun k o i _ => Q3 k o i, R3'⟩
    obtain ⟨w', u1, u2, u3, u4, u5, u6, u7, u8, u9⟩ := zm_take (but := none) (fr := none) (N := N) V3 hb hr r2 ad3 hb16 mN3 wH.1 mB3 ((I3o 19 24 0 (by omega) (by omega)).trans hnow) hE1 (fun j n _ => ⟨fun q => (by cases q), fun q => (by cases q)⟩) (by omega)
    have Iw : ∀ k j o, ¬ (k = 12 ∧ (j = 16 ∨ j = 18 ∨ j = 23 ∨ j = 24) ∧ o = b) → ¬ (k = 19 ∧ j = 11) → zgI w' k j o = zgI w k j o := fun k j o n1 n2 => (u7 k j o (fun q => n1 ⟨q.1, by omega, q.2.2⟩) n2).trans (I3o k j o (fun q => n1 ⟨q.1, by omega, q.2.2⟩) n2)
    refine ⟨w', ?_, u2, ⟨⟨ids, u4⟩, ?_, ?_, ?_, ?_, ?_⟩, fun d D' hd hD' => ?_, Iw, ?_, u6, fun x hx hx2 k hk => ?_, zMr_tr K3 u9⟩
    · have i16 : zgI y 12 16 b = Int32.ofNat (ro s) := (yI _ _ _).trans ((I2 12 16 b (by omega) (by omega)).trans m16)
      have i17 : zgI y 12 17 b = Int32.ofNat (rh s) := (yI _ _ _).trans ((I2 12 17 b (by omega) (by omega)).trans m17)
      have go : ∀ v, max (ro s) (rh s) = v → fX19_ownAdvert_169 N 0 b (Int32.ofNat a) b (Int32.ofNat v) y = some (0, w') := fun v hv => by
        have hv : v = M := by omega
        unfold fX19_ownAdvert_169
        rw [hv, zo_i1, zl_e, zmu76, zo_i1, zkk (by omega) (by omega), zoC (by omega)]
        have e16 : zgI (zsI y 12 16 b (Int32.ofNat (M + 1))) 12 16 b = Int32.ofNat (M + 1) := by rw [zgI_sI, if_pos ⟨rfl, rfl, rfl⟩]
        rw [e16, zl_e]
        have e24 : zgI (zsA (zsI y 12 16 b (Int32.ofNat (M + 1))) 178 0 (76 * a + 1) (Int32.ofNat (M + 1))) 19 24 0 = Int32.ofNat (eN E) := by
          show zgI (zsI y 12 16 b (Int32.ofNat (M + 1))) 19 24 0 = _
          rw [zgI_sI, if_neg (by omega), yI]
          exact (I2 19 24 0 (by omega) (by omega)).trans hnow
        rw [e24, zl_e]
        show zc (fX19_take N 0 b (Int32.ofNat a) none y3) _ = _
        rw [u1, zc_e]
      have ho := wm.2.1
      have hh := wm.2.2
      unfold fX19_ownAdvert_146
      rw [i16, i17]
      by_cases c : ro s ≤ rh s
      · rw [if_pos (by rw [zo_le (by omega) (by omega)]; exact c)]
        exact go (rh s) (by omega)
      · rw [if_neg (by rw [zo_le (by omega) (by omega)]; exact c)]
        exact go (ro s) (by omega)
    · exact zRmT_cg (Iw 12 22 b (by omega) (by omega)) (fun k i hk => (u8 k b i (by omega) (by omega) (by omega) (by omega)).trans (A3o k b i (by omega) (by omega))) mT
    · show zRmB w' b (bSet (rB s) b (some (max (ro s) (rh s) + 1, eN E, D)))
      rw [hMM]; exact u5
    · show zgI w' 12 16 b = Int32.ofNat (max (ro s) (rh s) + 1)
      rw [u7 12 16 b (by omega) (by omega), I3, if_neg (by omega), if_pos ⟨rfl, rfl, rfl⟩, hMM]
    · exact (Iw 12 17 b (by omega) (by omega)).trans m17
    · show zgI w' 12 18 b = (if max (ro s) (rh s) + 1 = 0 then (-1000000 : Int32) else Int32.ofNat (eN E))
      rw [if_neg (by omega), u7 12 18 b (by omega) (by omega), I3, if_pos ⟨rfl, rfl, rfl⟩]
    · exact zKm_MD u3 hd (zMD_ad (fun k _ => by
        show zgA y3 172 0 _ = zgA yn 172 0 _
        rw [A3, if_neg (by omega)]
        show _ = zgA (zsA w2 178 0 _ _) 172 0 _
        rw [zgA_sA, if_neg (by omega)]) (fun k i => by
        rw [A3, if_neg (by omega)]
        show _ = zgA (zsA w2 178 0 _ _) 174 k i
        rw [zgA_sA, if_neg (by omega)]) (fun k i => by rcases hy with rfl | ⟨v, rfl⟩ <;> rfl) (fun x _ _ k _ => by
        show zgA y3 178 0 _ = zgA (zsA w2 178 0 (76 * a + 1) (Int32.ofNat (M + 1))) 178 0 _
        rw [A3, zgA_sA]) (n2 d D' hd hD'))
    · rw [u7 12 24 b (by omega) (by omega), I3, if_neg (by omega), if_neg (by omega)]; exact f24
    · have e : mad w' x k = mad y3 x k := u8 178 0 _ (by omega) (by omega) (by omega) (by omega)
      rw [e]; exact mad3 x hx k hk
  -- the first tests
  have i0 : ∀ {v : Nat}, v ≤ 16000000 → (Int32.ofNat v = 0 ↔ v = 0) := fun {v} hv => by
    rw [show (0 : Int32) = Int32.ofNat 0 from rfl, zo_eq (by omega) (by omega)]
  have done : ¬ (ro s ≠ 0 ∧ eN E < rm s + 10) → (ro s = 0 ∨ ro s < rh s ∨ rm s + 2000 ≤ eN E) ∨ bLs (rB s) b ≠ some D → (∃ y : St, (y = w2 ∨ ∃ v, y = zsA w2 178 0 (76 * a + 1) v) ∧ fX19_ownAdvert N 0 b w = fX19_ownAdvert_146 N 0 b (Int32.ofNat a) y) → ∃ w', fX19_ownAdvert N 0 b w = some (0, w') ∧ zMV w' T E g K X TS (zTA w' T) TB ∧ zRml w' T b (rOwn (eN E) b D s) ∧ (∀ d D, d ∈ X → zMD w T K d D → zMD w' T K d D) ∧ (∀ k j o, ¬ (k = 12 ∧ (j = 16 ∨ j = 18 ∨ j = 23 ∨ j = 24) ∧ o = b) → ¬ (k = 19 ∧ j = 11) → zgI w' k j o = zgI w k j o) ∧ ((zgI w' 12 24 b = zgI w 12 24 b ∧ rOwn (eN E) b D s = s) ∨ (zgI w' 12 24 b = 0 ∧ bLs (rB (rOwn (eN E) b D s)) b = some D)) ∧ ((zgI w' 12 23 b = zgI w 12 23 b ∧ rB (rOwn (eN E) b D s) = rB s) ∨ zgI w' 12 23 b = 1) ∧ (∀ x, x ∈ zTA w T → x < 2400 → ∀ k, k < 76 → mad w' x k = mad w x k) ∧ zMr b w w' := fun h2 h1 run => by
    have e : rOwn (eN E) b D s = rMak (eN E) b D s := by unfold rOwn; rw [if_neg h2, if_pos h1]
    obtain ⟨y, hy, run⟩ := run
    obtain ⟨w', q1, q2, q3, q4, q5, q6, q7, q8, q9⟩ := make y hy
    rw [e]
    exact ⟨w', run.trans q1, q2, q3, q4, q5, Or.inr ⟨q6, bNew⟩, Or.inr q7, q8, q9⟩
  have stay : rOwn (eN E) b D s = s → fX19_ownAdvert N 0 b w = some (0, w) → ∃ w', fX19_ownAdvert N 0 b w = some (0, w') ∧ zMV w' T E g K X TS (zTA w' T) TB ∧ zRml w' T b (rOwn (eN E) b D s) ∧ (∀ d D, d ∈ X → zMD w T K d D → zMD w' T K d D) ∧ (∀ k j o, ¬ (k = 12 ∧ (j = 16 ∨ j = 18 ∨ j = 23 ∨ j = 24) ∧ o = b) → ¬ (k = 19 ∧ j = 11) → zgI w' k j o = zgI w k j o) ∧ ((zgI w' 12 24 b = zgI w 12 24 b ∧ rOwn (eN E) b D s = s) ∨ (zgI w' 12 24 b = 0 ∧ bLs (rB (rOwn (eN E) b D s)) b = some D)) ∧ ((zgI w' 12 23 b = zgI w 12 23 b ∧ rB (rOwn (eN E) b D s) = rB s) ∨ zgI w' 12 23 b = 1) ∧ (∀ x, x ∈ zTA w T → x < 2400 → ∀ k, k < 76 → mad w' x k = mad w x k) ∧ zMr b w w' := fun e run => by
    rw [e]
    exact ⟨w, run, h, hR, fun _ _ _ hD => hD, fun _ _ _ _ _ => rfl, Or.inl ⟨rfl, rfl⟩, Or.inl ⟨rfl, rfl⟩, fun _ _ _ _ _ => rfl, zMr_rf _ _⟩
  have st : ∀ (v : Int32), zgA w 150 b b = v → ∀ d : Nat, Int32.ofNat (eN E) - zgI w 12 18 b = Int32.ofNat d → d < 2147483648 → fX19_ownAdvert N 0 b w = (if 10 ≤ d then (if d < 2000 then fX19_ownAdvert_45 N 0 b v (0 : Int32) w else fX19_ownAdvert_45 N 0 b v (1 : Int32) w) else some (0, w)) := fun v hv d hd hd2 => by
    unfold fX19_ownAdvert
    rw [hnow, hd, t0, zkk hb16 (by omega), zoC (by omega), hv, zl_e]
    by_cases c : 10 ≤ d
    · rw [if_pos (by rw [show (10 : Int32) = Int32.ofNat 10 from rfl, zo_le (by omega) (by omega)]; exact c), if_pos c]
      by_cases c2 : d < 2000
      · rw [if_pos (by rw [show (2000 : Int32) = Int32.ofNat 2000 from rfl, zo_lt (by omega) (by omega)]; exact c2), if_pos c2]
      · rw [if_neg (by rw [show (2000 : Int32) = Int32.ofNat 2000 from rfl, zo_lt (by omega) (by omega)]; exact c2), if_neg c2]
    · rw [if_neg (by rw [show (10 : Int32) = Int32.ofNat 10 from rfl, zo_le (by omega) (by omega)]; exact c), if_neg c]
  have ho := wm.2.1
  have hh := wm.2.2
  have hm := wm.1
  obtain ⟨o1, o2⟩ | ⟨o1, L0, o2, o3⟩ := hOw
  · -- none yet
    have v150 : zgA w 150 b b = -1 := by have := mB b hb16; rw [o2] at this; exact this
    have d18 : Int32.ofNat (eN E) - zgI w 12 18 b = Int32.ofNat (eN E + 1000000) := by rw [m18, if_pos o1, znever]
    have run := st _ v150 _ d18 (by omega)
    rw [if_pos (by omega), if_neg (by omega)] at run
    refine done (fun q => q.1 o1) (Or.inl (Or.inl o1)) ⟨w2, Or.inl rfl, ?_⟩
    rw [run]
    unfold fX19_ownAdvert_45
    have r74 : fX19_ownAdvert_74 N 0 b (-1 : Int32) (1 : Int32) w = fX19_ownAdvert_146 N 0 b (Int32.ofNat a) w2 := by
      unfold fX19_ownAdvert_74 fX19_ownAdvert_109
      rw [zl_e]
      show zc (fX19_wouldTell N 0 b wa) _ = _
      rw [r1, zc_e, if_pos rfl, if_pos rfl]
    by_cases c : zgI w 12 24 b = 0
    · rw [if_neg (fun y => y c), if_pos rfl]; exact r74
    · rw [if_pos c]; exact r74
  · -- one is there
    have Bb := mB b hb16
    rw [o2] at Bb
    obtain ⟨x, x1, x2, x3, x4⟩ := Bb
    have x4 : zAdw w x b (ro s) L0 := x4
    have xm : x ∈ zTA w T := zTA_mem hc hb hr hb16 x1 x2
    have hne : x ≠ a := fun q => r3 (by rw [← q]; exact xm)
    have d18 : Int32.ofNat (eN E) - zgI w 12 18 b = Int32.ofNat (eN E - rm s) := by rw [m18, if_neg (by omega), zo_sub hm]
    have run := st _ x2 _ d18 (by omega)
    by_cases ca : eN E < rm s + 10
    · rw [if_neg (by omega)] at run
      exact stay (by unfold rOwn; rw [if_pos ⟨by omega, ca⟩]) run
    rw [if_pos (by omega)] at run
    have nca : ¬ (ro s ≠ 0 ∧ eN E < rm s + 10) := fun q => ca q.2
    have x1ne : ¬ Int32.ofNat x = (-1 : Int32) := zo_ne1 (by omega)
    have eb : bLs (rB s) b = some L0 := by unfold bLs; rw [o2]; rfl
    let w3 : St := zsA w2 178 0 (76 * a + 1) (Int32.ofNat (ro s))
    have A3 : ∀ k o i, zgA w3 k o i = if k = 178 ∧ o = 0 ∧ i = 76 * a + 1 then Int32.ofNat (ro s) else zgA w2 k o i := fun k o i => by
      show zgA (zsA w2 178 0 (76 * a + 1) _) k o i = _
      rw [zgA_sA]
    have adx : zAdw w3 x b (ro s) L0 := zAdw_cg (fun k hk => by
      show zgA w3 178 0 (76 * x + k) = _
      rw [A3, if_neg (by omega)]
      exact A2 178 0 _ (by omega) (by omega)) x4
    have ada : zAdw w3 a b (ro s) D := zAdw_num r2 (fun k hk => by
      show zgA w3 178 0 (76 * a + k) = _
      rw [A3]
      by_cases c : k = 1
      · rw [if_pos ⟨rfl, rfl, by omega⟩, if_pos c]
      · rw [if_neg (by omega), if_neg c]; rfl) r6
    have tell := zm_tellAlike (N := N) x1 r2 adx ada o3 hD (by omega)
    have i16 : zgI w3 12 16 b = Int32.ofNat (ro s) := (I2 12 16 b (by omega) (by omega)).trans m16
    have i17 : zgI w3 12 17 b = Int32.ofNat (rh s) := (I2 12 17 b (by omega) (by omega)).trans m17
    have lt17 : Int32.ofNat (ro s) < Int32.ofNat (rh s) ↔ ro s < rh s := zo_lt (by omega) (by omega)
    have r74 : ∀ s0 : Int32, fX19_ownAdvert_74 N 0 b (Int32.ofNat x) s0 w = (if ¬ L0 = D then fX19_ownAdvert_146 N 0 b (Int32.ofNat a) w3 else if ¬ s0 = 0 then fX19_ownAdvert_146 N 0 b (Int32.ofNat a) w3 else if ro s < rh s then fX19_ownAdvert_146 N 0 b (Int32.ofNat a) w3 else (zc (fX19_dropAdvert N 0 (Int32.ofNat a) w3) fun _ z10 => some (0, z10))) := fun s0 => by
      have adn : fX19_ad N 0 (Int32.ofNat x) (1 : Int32) w2 = some (Int32.ofNat (ro s), w2) := by
        have e : mad w2 x 1 = Int32.ofNat (ro s) := (A2 178 0 _ (by omega) (by omega)).trans x4.1.2
        rw [← e]; exact zm_ad (k := 1) x1 (by omega)
      unfold fX19_ownAdvert_74
      rw [zl_e]
      show zc (fX19_wouldTell N 0 b wa) _ = _
      rw [r1, zc_e, if_neg x1ne, adn, zc_e, zmu76, zo_i1, zkk (by omega) (by omega), zoC (by omega), zl_e]
      show fX19_ownAdvert_109 N 0 b (Int32.ofNat x) s0 (Int32.ofNat a) w3 = _
      unfold fX19_ownAdvert_109
      rw [if_neg x1ne, tell, zc_e]
      by_cases c : L0 = D
      · rw [decide_eq_true c, if_neg (show ¬ zbi true = 0 by decide), if_neg (show ¬ ¬ L0 = D from fun y => y c)]
        by_cases c2 : s0 = 0
        · rw [if_neg (show ¬ ¬ s0 = 0 from fun y => y c2), if_neg (show ¬ ¬ s0 = 0 from fun y => y c2), i16, i17]
          by_cases c3 : ro s < rh s
          · rw [if_pos (lt17.mpr c3), if_pos c3]
          · rw [if_neg (show ¬ Int32.ofNat (ro s) < Int32.ofNat (rh s) from fun y => c3 (lt17.mp y)), if_neg c3]
        · rw [if_pos c2, if_pos c2]
      · rw [decide_eq_false c, if_pos (show zbi false = 0 by decide), if_pos c]
    have r45 : ∀ s0 : Int32, fX19_ownAdvert_45 N 0 b (Int32.ofNat x) s0 w = (if ¬ zgI w 12 24 b = 0 then fX19_ownAdvert_74 N 0 b (Int32.ofNat x) s0 w else if ¬ s0 = 0 then fX19_ownAdvert_74 N 0 b (Int32.ofNat x) s0 w else if ro s < rh s then fX19_ownAdvert_74 N 0 b (Int32.ofNat x) s0 w else some (0, w)) := fun s0 => by
      unfold fX19_ownAdvert_45
      rw [if_neg x1ne, m16, m17]
      by_cases c : zgI w 12 24 b = 0
      · rw [if_neg (show ¬ ¬ zgI w 12 24 b = 0 from fun y => y c), if_neg (show ¬ ¬ zgI w 12 24 b = 0 from fun y => y c)]
        by_cases c2 : s0 = 0
        · rw [if_neg (show ¬ ¬ s0 = 0 from fun y => y c2), if_neg (show ¬ ¬ s0 = 0 from fun y => y c2)]
          by_cases c3 : ro s < rh s
          · rw [if_pos (lt17.mpr c3), if_pos c3]
          · rw [if_neg (show ¬ Int32.ofNat (ro s) < Int32.ofNat (rh s) from fun y => c3 (lt17.mp y)), if_neg c3]
        · rw [if_pos c2, if_pos c2]
      · rw [if_pos c, if_pos c]
    have to3 : ∃ y : St, (y = w2 ∨ ∃ v, y = zsA w2 178 0 (76 * a + 1) v) ∧ fX19_ownAdvert_146 N 0 b (Int32.ofNat a) w3 = fX19_ownAdvert_146 N 0 b (Int32.ofNat a) y := ⟨w3, Or.inr ⟨_, rfl⟩, rfl⟩
    -- old, or a greater number was heard
    by_cases cold : rm s + 2000 ≤ eN E
    · rw [if_neg (by omega), r45] at run
      have r1' : fX19_ownAdvert_74 N 0 b (Int32.ofNat x) (1 : Int32) w = fX19_ownAdvert_146 N 0 b (Int32.ofNat a) w3 := by
        rw [r74, if_pos (show ¬ (1 : Int32) = 0 by decide)]
        split <;> rfl
      rw [if_pos (show ¬ (1 : Int32) = 0 by decide), r1'] at run
      refine done nca (Or.inl (Or.inr (Or.inr cold))) ⟨w3, Or.inr ⟨_, rfl⟩, ?_⟩
      rw [run]; split <;> rfl
    rw [if_pos (by omega), r45] at run
    by_cases chd : ro s < rh s
    · have r1' : fX19_ownAdvert_74 N 0 b (Int32.ofNat x) (0 : Int32) w = fX19_ownAdvert_146 N 0 b (Int32.ofNat a) w3 := by
        rw [r74, if_pos chd]
        split
        · rfl
        · split <;> rfl
      rw [if_pos chd, r1'] at run
      refine done nca (Or.inl (Or.inr (Or.inl chd))) ⟨w3, Or.inr ⟨_, rfl⟩, ?_⟩
      rw [run]
      split
      · rfl
      · split <;> rfl
    rw [if_neg (show ¬ ¬ (0 : Int32) = 0 by decide), if_neg chd] at run
    have nd : ¬ (ro s = 0 ∨ ro s < rh s ∨ rm s + 2000 ≤ eN E) := by omega
    by_cases cf : zgI w 12 24 b = 0
    · rw [if_neg (show ¬ ¬ zgI w 12 24 b = 0 from fun y => y cf)] at run
      refine stay ?_ run
      unfold rOwn
      rw [if_neg nca, if_neg (fun q => by
        rcases q with q | q
        · exact nd q
        · exact q (hf cf))]
    rw [if_pos cf, r74] at run
    by_cases cl : L0 = D
    · rw [if_neg (show ¬ ¬ L0 = D from fun y => y cl), if_neg (show ¬ ¬ (0 : Int32) = 0 by decide), if_neg chd] at run
      obtain ⟨n1, n2⟩ := numb (Int32.ofNat (ro s))
      obtain ⟨w', u1, u2, u3, u4, u5, u6, u7⟩ := zm_dropTA (N := N) n1
      have eTA : zTA w' T = zTA w T := zTA_cg (fun c k _ _ => by
        rw [u4 150 c k (by omega) (by omega)]
        show zgA (zsA w2 178 0 _ _) 150 c k = _
        rw [zgA_sA, if_neg (by omega)]
        exact A2 150 c k (by omega) (by omega))
      have e : rOwn (eN E) b D s = s := by
        unfold rOwn
        rw [if_neg nca, if_neg (fun q => by
          rcases q with q | q
          · exact nd q
          · exact q (by rw [eb, cl]))]
      rw [e]
      have Iw : ∀ k j o, ¬ (k = 12 ∧ j = 24 ∧ o = b) → ¬ (k = 19 ∧ j = 11) → zgI w' k j o = zgI w k j o := fun k j o n1 n2 => (u5 k j o n2).trans (I2 k j o n1 n2)
      have Aw : ∀ k o i, ¬ (k = 178 ∧ o = 0 ∧ 76 * a ≤ i ∧ i < 76 * a + 76) → k ≠ 179 → k ≠ 180 → zgA w' k o i = zgA w k o i := fun k o i n1 n2 n3 => by
        rw [u4 k o i n2 n3]
        show zgA (zsA w2 178 0 (76 * a + 1) _) k o i = _
        rw [zgA_sA, if_neg (fun q => n1 ⟨q.1, q.2.1, by omega, by omega⟩)]
        exact A2 k o i n1 (fun q => n2 q.1)
      have Qw : ∀ k o i, zgQ w' k o i = zgQ w k o i ∧ zgR w' k o i = zgR w k o i := fun k o i => by
        have v := (zMr_dropAdvert b u1)
        have q := v.2.2.2.2 k o i
        refine ⟨?_, q.trans (r12 k o i)⟩
        have v' := zMr_dropAdvert (b + 1) u1
        by_cases c : k = 149 ∧ o = b
        · exact (v'.2.2.2.1 k o i (fun y => by omega)).trans (r11 k o i)
        · exact (v.2.2.2.1 k o i c).trans (r11 k o i)
      have madw : ∀ y, y ∈ zTA w T → ∀ k, k < 76 → mad w' y k = mad w y k := fun y hy k hk => Aw 178 0 _ (fun q => r3 (by
        have q3 := q.2.2.1
        have q4 := q.2.2.2
        have : y = a := by omega
        rw [← this]; exact hy)) (by omega) (by omega)
      refine ⟨w', ?_, ?_, ⟨⟨ids, zRmI_cg (Iw 12 13 b (by omega) (by omega)) (fun i => (Qw 149 b i).1) (fun x _ _ => ⟨fun j _ => Iw 15 j x (by omega) (by omega), fun k i _ => Aw k x i (by omega) (by omega) (by omega)⟩) mN⟩, zRmT_cg (Iw 12 22 b (by omega) (by omega)) (fun k i hk => Aw k b i (by omega) (by omega) (by omega)) mT, zRmB_cg (fun k i hk => Aw k b i (by omega) (by omega) (by omega)) (fun x r r16 hx ex k hk => madw x (zTA_mem hc hb hr r16 hx ex) k hk) mB, (Iw 12 16 b (by omega) (by omega)).trans m16, (Iw 12 17 b (by omega) (by omega)).trans m17, (Iw 12 18 b (by omega) (by omega)).trans m18⟩, fun d D' hd hD' => zKm_MD u3 hd (n2 d D' hd hD'), fun k j o n1 n2 => Iw k j o (fun q => n1 ⟨q.1, by omega, q.2.2⟩) n2, Or.inr ⟨(u5 12 24 b (by omega)).trans f24, by rw [eb, cl]⟩, Or.inl ⟨Iw 12 23 b (by omega) (by omega), rfl⟩, fun y hy _ => madw y hy, ⟨fun k j o n1 _ n3 => Iw k j o (fun q => n1 ⟨q.1, q.2.2, by omega⟩) (fun q => n3 (by omega)), fun k o i _ _ n3 => Aw k o i (fun q => n3 (by omega)) (fun q => n3 (by omega)) (fun q => n3 (by omega)), fun k o i => (u6 k o i).trans (r10 k o i), fun k o i _ => (Qw k o i).1, fun k o i => (Qw k o i).2⟩⟩
      · rw [run, u1, zc_e]
      · rw [eTA]; exact u2
    · rw [if_pos cl] at run
      exact done nca (Or.inr (by rw [eb]; exact fun q => cl (Option.some.inj q))) ⟨w3, Or.inr ⟨_, rfl⟩, run⟩
