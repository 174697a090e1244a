/-! an asking came to nothing: all that waited is answered by errors; both sides -/
theorem nHand_app {E : Ev} {g : Sg} {q p t b : Nat} {D : Dg} (hl : (gW g q).length < 16) : (∃ V, V.length ≤ 1 ∧ gW (nHand E b g p t D) q = gW g q ++ V) ∧ ∃ V, gA (nHand E b g p t D) q = gA g q ++ V ∧ ∀ a, a ∈ V → a.2 = eN E := by
  have hw : ∀ g : Sg, (gW g q).length < 16 → (∃ V, V.length ≤ 1 ∧ gW (nWait E g p t D) q = gW g q ++ V) ∧ gA (nWait E g p t D) q = gA g q := by
    intro g hl
    unfold nWait
    by_cases e : q = p
    · subst e
      rw [if_pos hl]
      exact ⟨⟨[dWait D t], by simp, zupd_s _ _ _⟩, rfl⟩
    · by_cases c : (gW g p).length < 16
      · rw [if_pos c]
        exact ⟨⟨[], by simp, by rw [List.append_nil]; exact zupd_n e⟩, rfl⟩
      · rw [if_neg c]
        cases gW g p ++ [dWait D t] with
        | nil => exact ⟨⟨[], by simp, by rw [List.append_nil]⟩, rfl⟩
        | cons o W' =>
          dsimp only
          by_cases c2 : W'.any (fun x => wTo x == wTo o) = true
          · rw [if_pos c2]; exact ⟨⟨[], by simp, by rw [List.append_nil]; exact zupd_n e⟩, rfl⟩
          · rw [if_neg c2]; exact ⟨⟨[], by simp, by rw [List.append_nil]; exact zupd_n e⟩, zupd_n e⟩
  unfold nHand
  by_cases c : nKnows E g p t = true
  · rw [if_pos c]
    obtain ⟨e1, e2, -⟩ := nCarry_W E b g p (Int32.ofNat t) D
    rw [e1, e2]
    exact ⟨⟨[], by simp, by simp⟩, ⟨[], by simp, by simp⟩⟩
  rw [if_neg c]
  by_cases c2 : nAsked g p t = true
  · rw [if_pos c2]
    obtain ⟨a1, a2⟩ := hw g hl
    exact ⟨a1, [], by rw [a2]; simp, by simp⟩
  · rw [if_neg c2]
    obtain ⟨e1, e2, -, -⟩ := nPut_W E (sA g (zupd (gA g) p (gA g p ++ [(t, eN E)]))) p (nQ p (dNote p 5 (zad (8 * (p / 8) + t))) (-1) 0 28)
    have e1' : gW (nAsk E (sA g (zupd (gA g) p (gA g p ++ [(t, eN E)]))) p t) = gW g := e1
    have e2' : gA (nAsk E (sA g (zupd (gA g) p (gA g p ++ [(t, eN E)]))) p t) = zupd (gA g) p (gA g p ++ [(t, eN E)]) := e2
    obtain ⟨a1, a2⟩ := hw (nAsk E (sA g (zupd (gA g) p (gA g p ++ [(t, eN E)]))) p t) (by rw [e1']; exact hl)
    rw [e1'] at a1
    rw [e2'] at a2
    refine ⟨a1, ?_⟩
    rw [a2]
    by_cases e : q = p
    · subst e
      rw [zupd_s]; exact ⟨[(t, eN E)], rfl, by simp⟩
    · rw [zupd_n e]; exact ⟨[], by simp, by simp⟩
def mAkc : Nat := mX8_takeWaiting ||| (mX8_firstWaitingFor ||| (mX11_comeBack ||| (mX11_sendOff ||| 0x800000000000000000000000000000000000000000000000000000000000000000000000000000000000000000000000000000000000000000000000000000000000000000000000000000000000000000000000000000000000)))
def mAkm : Nat := mX19_comeBack ||| mX19_drop
theorem zIp_asks {T : Tp} {E : Ev} {Wy : Wyt} {K : Int32 → Int32 → Int32 → Prop} {X Y TS TA TB : List Nat} {q s N tot : Nat} {x2 x4 x5 x2' : Int32} {K2 : Nat → Nat → Int32 → St → Option (Int32 × St)} {K26 : Nat → Nat → Int32 → Nat → Int32 → Int32 → St → Option (Int32 × St)} {K2m : Nat → Nat → Int32 → St → Option (Int32 × St)} (hc : zTc T) (hq : tv T q) (hs : s < 8) (htot : tot ≤ 16) (hY : Y.length ≤ 80) (hN : 1481 < N) :
    ∀ (Ds rest : List Dg) (L : List Nat) (i n n' : Nat) (gc : Sg) (R : Rg) (mk : Nat → Nat) (z w : St), L.length = Ds.length → i + Ds.length = tot → Ds.length < n → Ds.length < n' → (gW gc q).filter (fun x => wTo x == s) = Ds ++ rest → (gW gc q).length ≤ 16 → (∀ D, D ∈ Ds → zPd T R D) → mk (tw T q) + Ds.length < 2147483646 →
    (∀ j D d, Ds[j]? = some D → L[j]? = some d → zMD w T K d D ∧ zgA w 189 0 (i + j) = Int32.ofNat d) → zIp z w T E gc (gRem gc q s Ds.length) Wy R mk K X (L ++ Y) TS TA TB →
    ∃ z' w' gc' R' mk', fX11_doAskings_126 N K2 K26 n 0 (tw T q) x2 q x4 x5 (Int32.ofNat s) (Int32.ofNat tot) (Int32.ofNat i) z = fX11_doAskings_191 N K2 K26 0 (tw T q) x2 q x4 x5 z' ∧ fX19_askings_86 N K2m n' 0 q x2' (Int32.ofNat tot) (Int32.ofNat i) w = fX19_askings_150 N K2m 0 q x2' w' ∧ zIp z' w' T E gc' gc' Wy R' mk' K X Y TS TA TB ∧ zKe X z z' ∧ zKm Y w w' ∧ (∀ b n v, R b n = some v → R' b n = some v) ∧ (∀ c, mk c ≤ mk' c ∧ mk' c ≤ mk c + (if c = tw T q then Ds.length else 0)) ∧ (∃ V, gA gc' q = gA gc q ++ V ∧ ∀ a, a ∈ V → a.2 = eN E) ∧ zFr mAkc z z' ∧ zFr mAkm w w' ∧ (∀ QF QW QD, zQcl T E QF QW QD → (∀ D p t, D.1 2 = 0 → tv T p → t < 8 → QD p (Int32.ofNat t) D) → zQI T QF QW (gRem gc q s Ds.length) → zQI T QF QW gc') := by
  intro Ds
  induction Ds with
  | nil =>
    intro rest L i n n' gc R mk z w hL hi hn hn' hf hg hP hmk hd hp
    obtain ⟨n, rfl⟩ : ∃ k, n = k + 1 := ⟨n - 1, by omega⟩
    obtain ⟨n', rfl⟩ : ∃ k, n' = k + 1 := ⟨n' - 1, by omega⟩
    have hL0 : L = [] := List.length_eq_zero_iff.mp hL
    subst hL0
    have hi : i = tot := by simpa using hi
    rw [show ([] : List Dg).length = 0 from rfl, gRem_0] at hp
    refine ⟨z, w, gc, R, mk, ?_, ?_, hp, zKe_rf _ _, zKm_rf _ _, fun _ _ _ h => h, fun c => ⟨Nat.le_refl _, Nat.le_add_right _ _⟩, ⟨[], by simp, by simp⟩, zFr_rf _ _, zFr_rf _ _, fun QF QW QD _ _ h => by rw [show ([] : List Dg).length = 0 from rfl, gRem_0] at h; exact h⟩
    · show fX11_doAskings_126b N K2 K26 (fX11_doAskings_126 N K2 K26 n) 0 (tw T q) x2 q x4 x5 (Int32.ofNat s) (Int32.ofNat tot) (Int32.ofNat i) z = _
      unfold fX11_doAskings_126b
      rw [hi, if_pos (Int32.le_refl _)]
    · show fX19_askings_86b N K2m (fX19_askings_86 N K2m n') 0 q x2' (Int32.ofNat tot) (Int32.ofNat i) w = _
      unfold fX19_askings_86b
      rw [hi, if_pos (Int32.le_refl _)]
  | cons D Ds ih =>
    intro rest L i n n' gc R mk z w hL hi hn hn' hf hg hP hmk hd hp
    obtain ⟨n, rfl⟩ : ∃ k, n = k + 1 := ⟨n - 1, by omega⟩
    obtain ⟨n', rfl⟩ : ∃ k, n' = k + 1 := ⟨n' - 1, by omega⟩
    cases L with
    | nil => simp at hL
    | cons d L =>
    have hi : i + (Ds.length + 1) = tot := by simpa using hi
    have hna : Ds.length < n := by simp at hn; omega
    have hnb : Ds.length < n' := by simp at hn'; omega
    have hLl : L.length = Ds.length := by simpa using hL
    obtain ⟨⟨pC, pM, pG, pI, ⟨pWc, pWm, pWw⟩, pE, pU, p15⟩, pR, pW⟩ := id hp
    have hb := (hc.2.2.2.2.2.1 q hq).1
    have hW8 : ∀ G, G ∈ gW gc q → wTo G < 8 ∧ G.1 11 = Int32.ofNat (wTo G) := fun G hG => (pG.1 q hq G hG).2
    -- the first that waits
    cases hj : wfi (gW gc q) s with
    | none => rw [(wfi_none hj).1] at hf; cases hf
    | some j =>
    obtain ⟨A, G, B, a1, a2, a3, a4, a5, a6⟩ := wfi_some hj
    have hfil : (gW gc q).filter (fun x => wTo x == s) = G :: (A ++ B).filter (fun x => wTo x == s) := by
      rw [a1, List.filter_append, a4, List.filter_cons, if_pos (by simpa using a3), List.filter_append, a4]; rfl
    rw [hfil] at hf
    obtain ⟨rfl, hf2⟩ : G = D ∧ (A ++ B).filter (fun x => wTo x == s) = Ds ++ rest := by
      have := List.cons.inj hf
      exact this
    have hjl : j < (gW gc q).length := by rw [a1]; simp; omega
    have hWj : (gW gc q)[j] = G := by
      have : (gW gc q)[j]? = some G := by rw [a1, List.getElem?_append_right (by omega), a2]; simp
      rw [List.getElem?_eq_getElem hjl] at this
      exact Option.some.inj this
    have fw := zc_firstWaitingFor (N := N) (pC.2.2.2.2.2.1 q hq).2 hW8 hs (by omega)
    rw [hj] at fw
    obtain ⟨z1, x, t1, t2, t3, t4, t5, t6, t7⟩ := zc_take (N := N) pC hq hjl (by omega)
    rw [hWj] at t4
    let g1 : Sg := sW gc (zupd (gW gc) q ((gW gc q).eraseIdx j))
    have hg1 : gW g1 q = A ++ B := by
      show zupd (gW gc) q ((gW gc q).eraseIdx j) q = _
      rw [zupd_s, a6]
    have hg1n : ∀ p, p ≠ q → gW g1 p = gW gc p := fun p hp => zupd_n hp
    have hsub : ∀ p F, F ∈ gW g1 p → F ∈ gW gc p := fun p F hF => by
      by_cases e : p = q
      · subst e
        rw [hg1] at hF; rw [a1]
        simp at hF ⊢
        rcases hF with y | y
        · exact Or.inl y
        · exact Or.inr (Or.inr y)
      · rw [hg1n p e] at hF; exact hF
    have e1 : gRem g1 q s Ds.length = gRem gc q s (G :: Ds).length := by
      unfold gRem
      show sW (sW gc _) (zupd (zupd (gW gc) q _) q (wrem s Ds.length (gW g1 q))) = _
      rw [hg1, zupd_zupd, ← wrem_step A a4 a3, ← a1]; rfl
    have p1 : zIp z1 w T E g1 (gRem g1 q s Ds.length) Wy R mk K X ((d :: L) ++ Y) TS TA TB := by
      rw [e1]
      exact ⟨⟨t5, pM, ⟨fun p hp F hF => pG.1 p hp F (hsub p F hF), pG.2⟩, pI, ⟨zWyc_fr t6 (by decide) pWc, pWm, pWw⟩, zRE_fr t6 (by decide) (zFr_rf 0 w) (by decide) pE, zUt_keepC (z5_fr t6 (by decide)) pU, (zFr_gI t6 (by decide) (by decide) 0).trans p15⟩, zRg_same pR (fun c => zFr_gA t6 (by decide) c 2), fun p hp F hF => pW p hp F (hsub p F hF)⟩
    have hx0 : x ≠ 0 := by omega
    have hPG := hP G List.mem_cons_self
    have hWoG : zWo T (tw T q) G := pW q hq G (by rw [a1]; simp)
    obtain ⟨d1, d2⟩ := hd 0 G d rfl rfl
    have t4' : zPC 11 z1 x G := ⟨fun j hj h8 => t4.1 j (by omega) h8, t4.2⟩
    have hL80 : ((d :: L) ++ Y).length < 98 := by simp; omega
    obtain ⟨z2, z3, w1, F, R', mk', r1, r2, r3, r4, r5, r6, r7, r8, r9⟩ := zIp_back (why := 1) (N := N) p1 (by simp at hmk; omega) hb hx0 t4' hPG hWoG (by simp : d ∈ (d :: L) ++ Y) hL80 d1 hN
    have f3 : zFr mX19_comeBack w w1 := wX19_comeBack (Nat.and_self _) (zFr_rf _ _) _ _ r3
    obtain ⟨w2, u1, u2, u3, u4⟩ := zm_dropN (N := N) (X := L ++ Y) hc r4.1.2.1.2.2.2.2.1.2.2
    have hl16 : (gW g1 q).length < 16 := by
      rw [hg1]; rw [a1] at hg; simp at hg ⊢; omega
    have hcount : Ds.length ≤ ((gW g1 q).filter (fun x => wTo x == s)).length := by rw [hg1, hf2]; simp
    have hF : F (gRem g1 q s Ds.length) = gRem (F g1) q s Ds.length ∧ (∃ V, V.length ≤ 1 ∧ gW (F g1) q = gW g1 q ++ V) ∧ ∃ V, gA (F g1) q = gA g1 q ++ V ∧ ∀ a, a ∈ V → a.2 = eN E := by
      rcases r9 with r9 | ⟨D', goal, -, -, r9⟩
      · rw [r9]; exact ⟨rfl, ⟨[], by simp, by simp⟩, ⟨[], by simp, by simp⟩⟩
      · rw [r9]
        show nGo E (tw T q) (gRem g1 q s Ds.length) D' (rt T Wy (tw T q) goal) = gRem (nGo E (tw T q) g1 D' (rt T Wy (tw T q) goal)) q s Ds.length ∧ (∃ V, V.length ≤ 1 ∧ gW (nGo E (tw T q) g1 D' (rt T Wy (tw T q) goal)) q = gW g1 q ++ V) ∧ ∃ V, gA (nGo E (tw T q) g1 D' (rt T Wy (tw T q) goal)) q = gA g1 q ++ V ∧ ∀ a, a ∈ V → a.2 = eN E
        cases rt T Wy (tw T q) goal with
        | none => exact ⟨rfl, ⟨[], by simp, by simp [nGo]⟩, ⟨[], by simp [nGo], by simp⟩⟩
        | some v => exact ⟨nHand_rem hl16 hcount, nHand_app hl16⟩
    obtain ⟨hF1, ⟨V, hV1, hV⟩, ⟨V2, hV2, hV3⟩⟩ := hF
    rw [hF1] at r4
    have p2 : zIp z3 w2 T E (F g1) (gRem (F g1) q s Ds.length) Wy R' mk' K X (L ++ Y) TS TA TB := ⟨⟨r4.1.1, zMV_up u4 (by decide) (by rw [← hF1]; exact u2) r4.1.2.1, r4.1.2.2.1, r4.1.2.2.2.1, ⟨r4.1.2.2.2.2.1.1, zWym_fr u4 (by decide) r4.1.2.2.2.2.1.2.1, pWw⟩, zRE_fr (zFr_rf 0 z3) (by decide) u4 (by decide) r4.1.2.2.2.2.2.1, zUt_keepM u4 (by decide) r4.1.2.2.2.2.2.2.1, r4.1.2.2.2.2.2.2.2⟩, r4.2⟩
    have km : zKm (L ++ Y) w w2 := zKm_tr (zKm_sub (fun e he => List.mem_cons_of_mem _ he) r6) (zKm_sub (fun e he => List.mem_cons_of_mem _ he) u3)
    obtain ⟨z4, w3, gc', R2, mk2, y1, y2, y3, y4, y5, y6, y7, ⟨V4, y8, y8'⟩, y9, y10, yQ⟩ := ih (rest ++ V.filter (fun x => wTo x == s)) L (i + 1) n n' (F g1) R' mk' z3 w2 hLl (by omega) hna hnb (by rw [hV, hg1, List.filter_append, hf2, List.append_assoc]) (by rw [hV, List.length_append]; omega) (fun D hD => zPd_mono r7 (hP D (List.mem_cons_of_mem _ hD))) (by have := (r8 (tw T q)).2; rw [if_pos rfl] at this; simp at hmk; omega) (fun j D e hD he => by
      obtain ⟨b1, b2⟩ := hd (j + 1) D e hD he
      refine ⟨zKm_MD km (List.mem_append.mpr (Or.inl (List.mem_of_getElem? he))) b1, ?_⟩
      rw [show i + 1 + j = i + (j + 1) by omega, ← b2, zFr_gA u4 (by decide), zFr_gA f3 (by decide)]) p2
    refine ⟨z4, w3, gc', R2, mk2, ?_, ?_, y3, ?_, zKm_tr (zKm_sub (fun e he => List.mem_append.mpr (Or.inr he)) km) y5, fun b n v h => y6 _ _ _ (r7 _ _ _ h), fun c => ?_, ⟨V2 ++ V4, by rw [y8, hV2]; exact List.append_assoc _ _ _, fun a ha => by rcases List.mem_append.mp ha with h | h; exact hV3 a h; exact y8' a h⟩, ?_, zFr_tr (zFr_w f3 (by decide)) (zFr_tr (zFr_w u4 (by decide)) y10), fun QF QW QD hQ h0 h => yQ QF QW QD hQ h0 ?_⟩
    · show fX11_doAskings_126b N K2 K26 (fX11_doAskings_126 N K2 K26 n) 0 (tw T q) x2 q x4 x5 (Int32.ofNat s) (Int32.ofNat tot) (Int32.ofNat i) z = _
      unfold fX11_doAskings_126b fX11_doAskings_185
      have hj17 : j < 2147483648 := by omega
      rw [if_neg (by rw [zo_le (by omega) (by omega)]; omega), fw, zc_e]
      show (if 0 ≤ Int32.ofNat j then _ else _) = _
      rw [if_pos (zo_ge hj17)]
      show zc (fX8_takeWaiting N q (Int32.ofNat j) z) _ = _
      rw [t1, zc_e, zd_e, r1, zc_e]
      rcases r2 with ⟨b1, b2⟩ | ⟨b1, b2⟩
      · rw [b1, if_neg (fun y => y rfl), zl_e, zo_i1, ← b2]; exact y1
      · have e13 : zgR (zsI z2 11 15 0 0) 11 13 0 = some 0 := by
          have f2 : zFr mX11_comeBack z1 z2 := wX11_comeBack (Nat.and_self _) (zFr_rf _ _) _ _ r1
          show zgR z2 11 13 0 = _
          rw [zFr_gR f2 (by decide) (by decide)]; exact t5.1.1.2.2.1
        rw [if_pos b1, zl_e, zl_e, e13, zd_e, b2, zc_e, zl_e, zo_i1]; exact y1
    · show fX19_askings_86b N K2m (fX19_askings_86 N K2m n') 0 q x2' (Int32.ofNat tot) (Int32.ofNat i) w = _
      unfold fX19_askings_86b
      have d2' : zgA w 189 0 i = Int32.ofNat d := d2
      rw [if_neg (by rw [zo_le (by omega) (by omega)]; omega), zkk (by omega) (by omega), zl_e, zoC (by omega), d2', zl_e, (pM.1.2.2.2 q hq).1, zd_e, r3, zc_e, u1, zc_e, zl_e, zo_i1]
      exact y2
    · exact zKe_tr (fun u hu => ⟨fun j => t7 j u, fun i => zFr_gA t6 (by decide) u i⟩) (zKe_tr r5 y4)
    · have h1 := r8 c
      have h2 := y7 c
      by_cases e : c = tw T q
      · rw [if_pos e] at h1 h2 ⊢; simp; omega
      · rw [if_neg e] at h1 h2 ⊢; omega
    · have f2 : zFr mX11_comeBack z1 z2 := wX11_comeBack (Nat.and_self _) (zFr_rf _ _) _ _ r1
      refine zFr_tr (zFr_w t6 (by decide)) (zFr_tr (zFr_w f2 (by decide)) (zFr_tr ?_ y9))
      rcases r2 with ⟨-, b2⟩ | ⟨-, b2⟩
      · rw [b2]; exact zFr_rf _ _
      · exact zFr_tr (zFr_I (zFr_rf _ _) (by decide)) (zFr_w (wX11_sendOff (Nat.and_self _) (zFr_rf _ _) _ _ b2) (by decide))
    · rw [← e1] at h
      rw [← hF1]
      rcases r9 with r9 | ⟨D', goal, hd1, hd2, r9⟩
      · rw [r9]; exact h
      · rw [r9]
        exact nGo_Q hQ pC.2.2.2.1 hc pWw hb (p1.1.2.2.2.1.1.2.1) (p1.1.2.2.2.1.1.2.2.2.2) (fun p G hp' hG => by
          rw [p1.1.2.2.2.1.1.2.2.2.1 p _ hp']; exact List.any_eq_true.mpr ⟨G, hG, by simp⟩) hd1 (fun p t a _ c _ => h0 D' p t hd2 a c) h
