/-! an error comes back: both sides together -/
/-- the parcels that are kept: the partial ones and what is in hand -/
def zKe (X : List Nat) (z z' : St) : Prop := ∀ u, (515 ≤ u ∧ u < 579) ∨ u ∈ X → (∀ j, zgI z' 7 j u = zgI z 7 j u) ∧ ∀ i, zgA z' 125 u i = zgA z 125 u i
theorem zKe_rf (X : List Nat) (z : St) : zKe X z z := fun _ _ => ⟨fun _ => rfl, fun _ => rfl⟩
theorem zKe_tr {X : List Nat} {a b c : St} (h1 : zKe X a b) (h2 : zKe X b c) : zKe X a c := fun u hu => ⟨fun j => ((h2 u hu).1 j).trans ((h1 u hu).1 j), fun i => ((h2 u hu).2 i).trans ((h1 u hu).2 i)⟩
theorem zKe_h {X : List Nat} {q : Nat} {z z' : St} (h : zKh X q z z') : zKe X z z' := fun u hu => h u (by
  rcases hu with hu | hu
  · exact Or.inr (Or.inl ⟨hu.1, by omega⟩)
  · exact Or.inr (Or.inr hu))
/-- both sides of everything below the ends, and the ends; the class's network and the model's may differ by what the model has in its hands -/
def zPai2 (z w : St) (T : Tp) (E : Ev) (gc gm : Sg) (Wy : Wyt) (P : Dg → Prop) (K : Int32 → Int32 → Int32 → Prop) (X XM TS TA TB : List Nat) : Prop := zNC z T E gc X ∧ zMV w T E gm K XM TS TA TB ∧ zGc T E gc ∧ zGI T E P gm ∧ (zWyc z T Wy ∧ zWym w T Wy ∧ zWyw T Wy) ∧ zRE z w T ∧ zUt z w T ∧ zgI z 11 15 0 = 0
def zPai (z w : St) (T : Tp) (E : Ev) (g : Sg) (Wy : Wyt) (P : Dg → Prop) (K : Int32 → Int32 → Int32 → Prop) (X XM TS TA TB : List Nat) : Prop := zPai2 z w T E g g Wy P K X XM TS TA TB
/-- how many datagrams the boxes made: at most one more of box b -/
def zMu (z z' : St) (b : Nat) : Prop := (∀ c, c ≠ b → zgA z' 113 c 2 = zgA z 113 c 2) ∧ (zgA z' 113 b 2 = zgA z 113 b 2 ∨ zgA z' 113 b 2 = zgA z 113 b 2 + 1)
theorem zMu_eq {z z' : St} {b : Nat} (h : ∀ c, zgA z' 113 c 2 = zgA z 113 c 2) : zMu z z' b := ⟨fun c _ => h c, Or.inl (h b)⟩
theorem nGo_I {T : Tp} {E : Ev} {P : Dg → Prop} {Wy : Wyt} {g : Sg} {b : Nat} {D : Dg} {goal : Int32} (hw : zEw T E) (hc : zTc T) (hWw : zWyw T Wy) (hP : zPcl P) (hb : b < tb T) (hDw : zDw D) (hk : ¬ D.1 2 = 5 ∧ ¬ D.1 2 = 6) (hPD : P D) (h : zGI T E P g) : zGI T E P (nGo E b g D (rt T Wy b goal)) := by
  cases e : rt T Wy b goal with
  | none => exact h
  | some v =>
    obtain ⟨a1, a2, a3⟩ := rt_some (q := v.1) (s := v.2) hc hWw hb e
    exact nHand_I hw hP a1 a3 hDw hk hPD h
theorem nWait_mem {E : Ev} {g : Sg} {q s p : Nat} {D G : Dg} (h : G ∈ gW (nWait E g q s D) p) : G ∈ gW g p ∨ (p = q ∧ G = dWait D s) := by
  unfold nWait at h
  by_cases c : (gW g q).length < 16
  · rw [if_pos c] at h
    have h : G ∈ zupd (gW g) q (gW g q ++ [dWait D s]) p := h
    by_cases e : p = q
    · subst e
      rw [zupd_s] at h
      rcases List.mem_append.mp h with h | h
      · exact Or.inl h
      · exact Or.inr ⟨rfl, by simpa using h⟩
    · rw [zupd_n e] at h; exact Or.inl h
  · rw [if_neg c] at h
    cases hL : gW g q ++ [dWait D s] with
    | nil => rw [hL] at h; exact Or.inl h
    | cons o W' =>
      rw [hL] at h
      dsimp only at h
      have h : G ∈ zupd (gW g) q W' p := by
        by_cases c2 : W'.any (fun x => wTo x == wTo o) = true
        · rw [if_pos c2] at h; exact h
        · rw [if_neg c2] at h; exact h
      by_cases e : p = q
      · subst e
        rw [zupd_s] at h
        have : G ∈ gW g p ++ [dWait D s] := by rw [hL]; exact List.mem_cons_of_mem _ h
        rcases List.mem_append.mp this with h | h
        · exact Or.inl h
        · exact Or.inr ⟨rfl, by simpa using h⟩
      · rw [zupd_n e] at h; exact Or.inl h
theorem nHand_mem {E : Ev} {g : Sg} {q s p b : Nat} {D G : Dg} (h : G ∈ gW (nHand E b g q s D) p) : G ∈ gW g p ∨ (p = q ∧ G = dWait D s) := by
  unfold nHand at h
  by_cases c : nKnows E g q s = true
  · rw [if_pos c, (nCarry_W E b g q (Int32.ofNat s) D).1] at h; exact Or.inl h
  rw [if_neg c] at h
  by_cases c2 : nAsked g q s = true
  · rw [if_pos c2] at h; exact nWait_mem h
  · rw [if_neg c2] at h
    rcases nWait_mem h with h | h
    · have e : gW (nAsk E (sA g (zupd (gA g) q (gA g q ++ [(s, eN E)]))) q s) = gW g := (nPut_W E _ q _).1
      rw [e] at h; exact Or.inl h
    · exact Or.inr h
theorem nWait_c {T : Tp} {E : Ev} {g : Sg} {q s : Nat} {D : Dg} (hA : zAw T E g) (hH : zHw T E g) : zAw T E (nWait E g q s D) ∧ zHw T E (nWait E g q s D) := by
  unfold nWait
  by_cases c : (gW g q).length < 16
  · rw [if_pos c]; exact ⟨hA, hH⟩
  · rw [if_neg c]
    cases gW g q ++ [dWait D s] with
    | nil => exact ⟨hA, hH⟩
    | cons o W' =>
      dsimp only
      by_cases c2 : W'.any (fun x => wTo x == wTo o) = true
      · rw [if_pos c2]; exact ⟨hA, hH⟩
      · rw [if_neg c2]
        exact ⟨zAw_filter (g := sS (sW g (zupd (gW g) q W')) (eN E)) hA, hH⟩
theorem nHand_c {T : Tp} {E : Ev} {g : Sg} {q s b : Nat} {D : Dg} (hq : tv T q) (hs : s < 8) (hDw : zDw D) (h : zGc T E g) : zGc T E (nHand E b g q s D) := by
  obtain ⟨h1, h2, h3, h4⟩ := h
  have hAH : zAw T E (nHand E b g q s D) ∧ zHw T E (nHand E b g q s D) := by
    unfold nHand
    by_cases c : nKnows E g q s = true
    · rw [if_pos c]
      obtain ⟨-, e2, e3⟩ := nCarry_W E b g q (Int32.ofNat s) D
      unfold zAw zHw
      rw [e2, e3]; exact ⟨h2, h3⟩
    rw [if_neg c]
    by_cases c2 : nAsked g q s = true
    · rw [if_pos c2]; exact nWait_c h2 h3
    · rw [if_neg c2]
      have hA1 : zAw T E (sA g (zupd (gA g) q (gA g q ++ [(s, eN E)]))) := by
        intro p hp
        obtain ⟨a1, a2⟩ := h2 p hp
        by_cases e : p = q
        · subst e
          have : gA (sA g (zupd (gA g) p (gA g p ++ [(s, eN E)]))) p = gA g p ++ [(s, eN E)] := zupd_s _ _ _
          rw [this]
          refine ⟨?_, fun a ha => ?_⟩
          · rw [List.map_append]
            refine List.nodup_append.mpr ⟨a1, by simp, fun x hx y hy => ?_⟩
            obtain ⟨a, ha, rfl⟩ := List.mem_map.mp hx
            intro e
            have hy : y = s := by simpa using hy
            exact c2 (List.any_eq_true.mpr ⟨a, ha, by simp [e, hy]⟩)
          · rcases List.mem_append.mp ha with ha | ha
            · exact a2 a ha
            · obtain rfl : a = (s, eN E) := by simpa using ha
              exact ⟨hs, h4, Nat.le_refl _⟩
        · have : gA (sA g (zupd (gA g) q (gA g q ++ [(s, eN E)]))) p = gA g p := zupd_n e
          rw [this]; exact ⟨a1, a2⟩
      obtain ⟨-, e2, -, e3⟩ := nPut_W E (sA g (zupd (gA g) q (gA g q ++ [(s, eN E)]))) q (nQ q (dNote q 5 (zad (8 * (q / 8) + s))) (-1) 0 28)
      refine nWait_c ?_ ?_
      · unfold zAw nAsk nNote
        rw [e2]; exact hA1
      · unfold zHw nAsk nNote
        rw [e3]; exact h3
  refine ⟨fun p hp G hG => ?_, hAH.1, hAH.2, h4⟩
  rcases nHand_mem hG with hG | hG
  · exact h1 p hp G hG
  · rw [hG.2]
    exact ⟨zDw_cut hDw _ _ _ (by omega) hDw.2.2.2.2.2, by rw [dWait_to hs]; exact hs, by rw [dWait_to hs]; rfl⟩
theorem nGo_c {T : Tp} {E : Ev} {Wy : Wyt} {g : Sg} {b : Nat} {D : Dg} {goal : Int32} (hc : zTc T) (hWw : zWyw T Wy) (hb : b < tb T) (hDw : zDw D) (h : zGc T E g) : zGc T E (nGo E b g D (rt T Wy b goal)) := by
  cases e : rt T Wy b goal with
  | none => exact h
  | some v =>
    obtain ⟨a1, a2, a3⟩ := rt_some (q := v.1) (s := v.2) hc hWw hb e
    exact nHand_c a1 a3 hDw h
theorem zp_back {z w : St} {T : Tp} {E : Ev} {gc gm : Sg} {Wy : Wyt} {P : Dg → Prop} {K : Int32 → Int32 → Int32 → Prop} {X XM TS TA TB : List Nat} {b x d N : Nat} {D : Dg} {why : Int32} (hp : zPai2 z w T E gc gm Wy P K X XM TS TA TB) (hP : zPcl P) (hb : b < tb T) (hx : D.1 2 = 1 → df D = 0 → tha T b (D.1 0) = false → x ≠ 0) (hDc : zPC 11 z x D) (hDw : zDw D) (hd : d ∈ XM) (hX : XM.length < 98) (hDm : zMD w T K d D) (h4 : D.1 2 = 1 → df D = 0 → 4 ≤ dl D) (h10 : D.1 2 = 1 → df D = 0 → tha T b (D.1 0) = false → ∃ i, i < tp T b ∧ D.1 10 = Int32.ofNat i ∧ P (dErr (tq T b i) D (zgA z 113 b 2) why (zgA z 125 0))) (hN : 1481 < N) :
    ∃ z1 z2 w' F, fX11_comeBack N 0 b x why z = some (0, z1) ∧ ((zgI z1 11 15 0 = 0 ∧ z2 = z1) ∨ (¬ zgI z1 11 15 0 = 0 ∧ fX11_sendOff N 0 b 0 (zsI z1 11 15 0 0) = some (0, z2))) ∧ fX19_comeBack N 0 b (Int32.ofNat d) w = some (0, w') ∧ zPai2 z2 w' T E (F gc) (F gm) Wy P K X XM TS TA TB ∧ zKe X z z2 ∧ zKm XM w w' ∧ ((D.1 2 = 1 → df D = 0 → tha T b (D.1 0) = true) → z2 = z1) ∧ zMu z z2 b ∧ ((D.1 2 = 1 → df D = 0 → tha T b (D.1 0) = true) → ∀ c, zgA z2 113 c 2 = zgA z 113 c 2) ∧ (D.1 2 = 1 → df D = 0 → tha T b (D.1 0) = false → zgA z2 113 b 2 = zgA z 113 b 2 + 1) ∧ (F = id ∨ ∃ i, i < tp T b ∧ F = fun g => nGo E b g (dErr (tq T b i) D (zgA z 113 b 2) why (zgA z 125 0)) (rt T Wy b (D.1 0))) := by
  obtain ⟨pC, pM, pI, pJ, ⟨pWc, pWm, pWw⟩, pE, pU, p15⟩ := hp
  have hT := pC.1
  have hc := pC.2.1
  have hM := pM.1
  have hd24 : d < 2400 := hDm.1.1
  have e2 : zgI z 7 2 x = D.1 2 := hDc.1 2 (by omega) (by omega)
  have e5 : zgI z 7 5 x = Int32.ofNat (df D) := (hDc.1 5 (by omega) (by omega)).trans hDw.2.1
  have o2 : fX19_of N 0 (Int32.ofNat d) 2 w = some (D.1 2, w) := by
    have := zm_of (w := w) (N := N) (k := 2) hd24 (by omega)
    rw [hDm.1.2.2.2.1] at this; exact this
  have o6 : fX19_of N 0 (Int32.ofNat d) 6 w = some (Int32.ofNat (df D), w) := by
    have := zm_of (w := w) (N := N) (k := 6) hd24 (by omega)
    rw [hDm.2.1.2.1, hDw.2.1] at this; exact this
  by_cases k1 : D.1 2 = 1
  · have hdf : df D ≤ 1480 := by have := hDw.2.2.2.1; have := hDw.2.2.2.2.1; omega
    by_cases k5 : df D = 0
    · by_cases ko : tha T b (D.1 0) = true
      · -- its own: the asking is aborted
        have e0 : zgI z 7 0 x = D.1 0 := hDc.1 0 (by omega) (by omega)
        have e1 : zgI z 7 1 x = D.1 1 := hDc.1 1 (by omega) (by omega)
        have hdl := h4 k1 k5
        have c0 : g2 (zgA z 125 x) 0 = g2 D.2 0 := by
          have a0 := hDc.2 0 (by omega); have a1 := hDc.2 1 (by omega)
          rw [k5] at a0 a1
          unfold g2; rw [a0, a1]
        have c2 : g2 (zgA z 125 x) 2 = g2 D.2 2 := by
          have a0 := hDc.2 2 (by omega); have a1 := hDc.2 3 (by omega)
          rw [k5] at a0 a1
          unfold g2; rw [a0, a1]
        obtain ⟨s, s24, s10, -, s0, s1, -⟩ := hDm.2.2.1 k1
        let za : St := zsA z 113 b 7 (zgA z 113 b 7 + 1)
        let wa : St := zsI w 12 9 b (zgI w 12 9 b + 1)
        have fa : zFr 0x200000000000000000000000000000000000000000000000000000000000000000000000000000000000000000000000000000000000000000000000000000000000000000000000000000000000000000000000000000000000000000000000000000000000000000000000000000000000000000000000000000000000000000000000000000000000000000000000000000000000000000000000000000000000 z za := zFr_A (zFr_rf _ _) (by decide)
        have fb : zFr 0x200000000000000000000000000000000000000000000000000000000000000000000000000000000000000000000000000000000000000000000000000000000000000000000000000000000000000000000000000000000000000000000000000 w wa := zFr_I (zFr_rf _ _) (by decide)
        have pE2 : zRE za wa T := zRE_fr fa (by decide) fb (by decide) pE
        obtain ⟨z1, w1, r1, r2, r3, r4, r5, r6, r7⟩ := za_abort (N := N) (own := g2 D.2 0) (peer := D.1 1) (pport := g2 D.2 2) hc hb ko (by omega) 6 0 N N za wa rfl (by omega) (by omega) (zTC_fr fa (by decide) hT) (zTM_fr fb (by decide) hM) pE2
        have pa : zNC za T E gc X := zNC_cg fa (by decide) (fun u _ _ _ => ⟨fun _ => rfl, fun i => by rw [zgA_sA, if_neg (by simp)]⟩) (fun c => by rw [zgA_sA, if_neg (by simp)]) pC
        have p1 : zNC z1 T E gc X := zNC_cg r4 (by decide) (fun u _ _ _ => ⟨fun j => r7 j u, fun i => zFr_gA r4 (by decide) u i⟩) (fun c => zFr_gA r4 (by decide) c 5) pa
        have rc : fX11_comeBack N 0 b x why z = some (0, z1) := by
          unfold fX11_comeBack
          have e7 : ∀ {β : Type} (k : Option β), zk (7 : Int32) 8 k = k := fun k => zkk (i := 7) (by decide) (by decide) k
          have q0 : fX7_get2 N x (0 : Int32) za = some (g2 (zgA za 125 x) 0, za) := zc_get2 (i := 0) (by decide)
          have q2 : fX7_get2 N x (2 : Int32) za = some (g2 (zgA za 125 x) 2, za) := zc_get2 (i := 2) (by decide)
          have qa : zgA za 125 x = zgA z 125 x := by
            show zgA (zsA z 113 b 7 _) 125 x = _
            rw [zA_n (by decide)]
          rw [e2, if_neg (fun y => y k1), e5, k5, if_pos (show Int32.ofNat 0 = 0 from rfl), e0, zc_hasAddress hT hc _ hb (by omega), zc_e, ko, show (zbi true : Int32) = 1 from rfl, if_neg (by decide), e7, e7, zl_e]
          show zc (fX7_get2 N x (0 : Int32) za) _ = _
          rw [q0, zc_e, q2, zc_e, qa, c0, c2]
          show zc (fX11_abortAsking_3 N N b (zgI z 7 1 x) (g2 D.2 0) (g2 D.2 2) (Int32.ofNat 0) za) _ = _
          rw [e1, r1, zc_e]
        have rm : fX19_comeBack N 0 b (Int32.ofNat d) w = some (0, w1) := by
          unfold fX19_comeBack
          have o : ∀ (j : Nat), j < 18 → fX19_of N 0 (Int32.ofNat d) (Int32.ofNat j) w = some (md w d j, w) := fun j hj => zm_of hd24 hj
          have o0 : fX19_of N 0 (Int32.ofNat d) 0 w = some (D.1 0, w) := by rw [← hDm.1.2.1]; exact o 0 (by omega)
          have o1 : fX19_of N 0 (Int32.ofNat d) 1 w = some (D.1 1, w) := by rw [← hDm.1.2.2.1]; exact o 1 (by omega)
          have o10 : fX19_of N 0 (Int32.ofNat d) 10 w = some (Int32.ofNat s, w) := by rw [← s10]; exact o 10 (by omega)
          have g0 : fX19_seg N 0 (Int32.ofNat s) 0 w = some (g2 D.2 0, w) := by rw [← s0]; exact zm_seg (k := 0) s24 (by omega)
          have g1 : fX19_seg N 0 (Int32.ofNat s) 1 w = some (g2 D.2 2, w) := by rw [← s1]; exact zm_seg (k := 1) s24 (by omega)
          rw [o2, zc_e, if_neg (fun y => y k1), o6, zc_e, k5, if_pos (show Int32.ofNat 0 = 0 from rfl), o0, zc_e, o1, zc_e, o10, zc_e, g0, zc_e, o10, zc_e, g1, zc_e, zm_isOwn hM hc _ hb (by omega), zc_e, ko, show (zbi true : Int32) = 1 from rfl, if_neg (by decide), zl_e]
          show zc (fX19_act_3 N N 0 b (D.1 0) (D.1 1) (g2 D.2 0) (g2 D.2 2) (Int32.ofNat 0) wa) _ = _
          rw [r2, zc_e]
        have i15 : zgI z1 11 15 0 = 0 := (zFr_gI r4 (by decide) (by decide) 0).trans p15
        refine ⟨z1, z1, w1, id, rc, Or.inl ⟨i15, rfl⟩, rm, ⟨p1, ?_, pI, pJ, ⟨?_, ?_, pWw⟩, r3, ?_, i15⟩, ?_, ?_, fun _ => rfl, zMu_eq (fun c => (zFr_gA r4 (by decide) c 2).trans (by rw [zgA_sA, if_neg (by simp)])), fun _ c => (zFr_gA r4 (by decide) c 2).trans (by rw [zgA_sA, if_neg (by simp)]), (fun _ _ y => by rw [ko] at y; cases y), Or.inl rfl⟩
        · exact zMV_fr r5 (by decide) r6 (zMV_fr fb (by decide) (fun _ _ _ => rfl) pM)
        · exact zWyc_fr r4 (by decide) (zWyc_fr fa (by decide) pWc)
        · exact zWym_fr r5 (by decide) (zWym_fr fb (by decide) pWm)
        · refine zUt_keep (z5_fr r4 (by decide)) r5 (by decide) (fun c hc' => ?_)
          obtain ⟨a2, a3, a4, a6, a7⟩ := pU c hc'
          have A : ∀ k, zgA za 113 c k = if c = b ∧ k = 7 then zgA z 113 b 7 + 1 else zgA z 113 c k := fun k => by
            show zgA (zsA z 113 b 7 _) 113 c k = _
            rw [zgA_sA]; simp only [true_and]
          have I : ∀ j, zgI wa 12 j c = if j = 9 ∧ c = b then zgI w 12 9 b + 1 else zgI w 12 j c := fun j => by
            show zgI (zsI w 12 9 b _) 12 j c = _
            rw [zgI_sI]; simp only [true_and]
          rw [A, A, A, A, A, I, I, I, I, I, if_neg (by omega), if_neg (by omega), if_neg (by omega), if_neg (by omega), if_neg (by omega), if_neg (by omega), if_neg (by omega), if_neg (by omega)]
          refine ⟨a2, a3, a4, a6, ?_⟩
          by_cases y : c = b
          · subst y; rw [if_pos ⟨rfl, rfl⟩, if_pos ⟨rfl, rfl⟩, a7]
          · rw [if_neg (fun t => y t.1), if_neg (fun t => y t.2)]; exact a7
        · intro u hu
          refine ⟨fun j => ?_, fun i => (zFr_gA r4 (by decide) u i).trans ?_⟩
          · exact r7 j u
          · show zgA (zsA z 113 b 7 _) 125 u i = _
            rw [zgA_sA, if_neg (by simp)]
        · exact zKm_tr (zKm_fr fb (by decide) (fun _ _ _ => rfl)) (zKm_fr r5 (by decide) r6)
      · -- another's: an error is sent
        have ko' : tha T b (D.1 0) = false := by simpa using ko
        obtain ⟨i, hi, h10', hPe⟩ := h10 k1 k5 ko'
        obtain ⟨z1, c1, c2, c3, c4, c5, c6, c7⟩ := zc_back (N := N) (why := why) pC hb hi (hx k1 k5 ko') hDc k1 hDw k5 (h4 k1 k5) ko' h10' (by omega)
        let z1' : St := zsI z1 11 15 0 0
        have fz : zFr 0x800000000000000000000000000000000000000000000000000000000000000000000000000000000000000000000000000000000000000000000000000000000000000000000000000000000000000000000000000000000000 z1 z1' := zFr_I (zFr_rf _ _) (by decide)
        have i7 : ∀ j u, zgI z1' 7 j u = zgI z1 7 j u := fun j u => by
          show zgI (zsI z1 11 15 0 0) 7 j u = _
          rw [zgI_sI, if_neg (by simp)]
        have C1 : zNC z1' T E gc X := zNC_cg fz (by decide) (fun u _ _ _ => ⟨fun j => i7 j u, fun _ => rfl⟩) (fun _ => rfl) c2
        have P1 : zPC 11 z1' 0 (dErr (tq T b i) D (zgA z 113 b 2) why (zgA z 125 0)) := zPC_cg (fun j _ => i7 j 0) (fun _ => rfl) c3
        have W1 : zWyc z1' T Wy := zWyc_fr fz (by decide) (zWyc_fr c7 (by decide) pWc)
        have i150 : zgI z1' 11 15 0 = 0 := by
          show zgI (zsI z1 11 15 0 0) 11 15 0 = 0
          rw [zgI_sI, if_pos ⟨rfl, rfl, rfl⟩]
        have hDE := zDw_err (tq T b i) D (zgA z 113 b 2) why (zgA z 125 0)
        have so := zc_sendOff (N := N) (Wy := Wy) (b := b) C1 W1 pWw pI hb (Or.inl rfl) P1 hDE hN
        have sent : ∃ z2, fX11_sendOff N 0 b 0 z1' = some (0, z2) ∧ zNC z2 T E (nGo E b gc (dErr (tq T b i) D (zgA z 113 b 2) why (zgA z 125 0)) (rt T Wy b (D.1 0))) X ∧ zKe X z1' z2 ∧ zFr mX11_hand z1' z2 ∧ z5 z1' z2 := by
          cases e : rt T Wy b (D.1 0) with
          | none =>
            refine ⟨z1', ?_, C1, zKe_rf _ _, zFr_rf _ _, z5_rf _⟩
            rw [so.2 e]
            have k0 : zgI z1' 7 2 0 = 0 := P1.1 2 (by omega) (by omega)
            unfold fX11_comeBack
            rw [k0, if_pos (by decide), zc_e]
          | some v =>
            obtain ⟨z2, t1, t2, t3, t4, t5⟩ := so.1 v.1 v.2 e
            exact ⟨z2, t1, t2, zKe_h t3, t4, z5_hand (z5_rf _) _ _ t5⟩
        obtain ⟨z2, t1, t2, t3, t4, t5⟩ := sent
        obtain ⟨w', u1, u2, u3, u4, u5, u6⟩ := zm_back (N := N) (why := why) (num := zgA z 113 b 2) (old := zgA z 125 0) pM pWm pWw pJ.1 pJ.2.2.1 hb hi hd hX hDm k1 hDw k5 ko' h10' (pU b hb).1.symm hN
        have fC : zFr (mX11_hand ||| 0x200200000000000000000000000000000000000000000000000000000000000000000000000000000000000000000000000000000000000000000000000000000000000000000000000800000000000000000000000000000000000000000000000000000000000000006ff0000000000000000000000000000000000000000000000000000000000000000000000000000000000000000000000000000000000000000) z z2 := zFr_tr (zFr_w c7 (by decide)) (zFr_tr (zFr_w fz (by decide)) (zFr_w t4 (by decide)))
        have i15 : zgI z2 11 15 0 = 0 := (zFr_gI t4 (by decide) (by decide) 0).trans i150
        refine ⟨z1, z2, w', fun g => nGo E b g (dErr (tq T b i) D (zgA z 113 b 2) why (zgA z 125 0)) (rt T Wy b (D.1 0)), c1, Or.inr ⟨by rw [c4]; decide, t1⟩, u1, ⟨t2, u2, nGo_c hc pWw hb hDE pI, nGo_I pC.2.2.2.1 hc pWw hP hb hDE (dErr_k _ _ _ _ _) hPe pJ, ⟨zWyc_fr t4 (by decide) W1, zWym_fr u6 (by decide) pWm, pWw⟩, zRE_fr fC (by decide) u6 (by decide) pE, ?_, i15⟩, ?_, u3, fun y => absurd (y k1 k5) ko, ⟨fun c hc' => ((t5 c 2 (by decide)).trans (c6 c 2)).trans (if_neg (fun y => hc' y.1)), Or.inr (((t5 b 2 (by decide)).trans (c6 b 2)).trans (if_pos ⟨rfl, rfl⟩))⟩, fun y => absurd (y k1 k5) ko, fun _ _ _ => (((t5 b 2 (by decide)).trans (c6 b 2)).trans (if_pos ⟨rfl, rfl⟩)), Or.inr ⟨i, hi, rfl⟩⟩
        · intro c hc'
          obtain ⟨a2, a3, a4, a6, a7⟩ := pU c hc'
          have A : ∀ k, k ≠ 5 → zgA z2 113 c k = if c = b ∧ k = 2 then zgA z 113 b 2 + 1 else zgA z 113 c k := fun k hk => (t5 c k hk).trans (c6 c k)
          rw [A 2 (by decide), A 3 (by decide), A 4 (by decide), A 6 (by decide), A 7 (by decide), if_neg (by omega : ¬ (c = b ∧ 3 = 2)), if_neg (by omega : ¬ (c = b ∧ 4 = 2)), if_neg (by omega : ¬ (c = b ∧ 6 = 2)), if_neg (by omega : ¬ (c = b ∧ 7 = 2)), zFr_gI u6 (by decide) (by decide) (j := 5), zFr_gI u6 (by decide) (by decide) (j := 6), zFr_gI u6 (by decide) (by decide) (j := 8), zFr_gI u6 (by decide) (by decide) (j := 9)]
          refine ⟨?_, a3, a4, a6, a7⟩
          by_cases y : c = b
          · subst y; rw [if_pos ⟨rfl, rfl⟩, u4]
          · rw [if_neg (fun t => y t.1), u5 c y]; exact a2
        · exact zKe_tr (fun u hu => c5 u (by
            rcases hu with hu | hu
            · omega
            · have := (zX1 pC.2.2.2.2.1.2.2 u hu).1; omega)) (zKe_tr (fun u _ => ⟨fun j => i7 j u, fun _ => rfl⟩) t3)
    · refine ⟨z, z, w, id, ?_, Or.inl ⟨p15, rfl⟩, ?_, ⟨pC, pM, pI, pJ, ⟨pWc, pWm, pWw⟩, pE, pU, p15⟩, zKe_rf _ _, zKm_rf _ _, fun _ => rfl, zMu_eq (fun _ => rfl), fun _ _ => rfl, fun _ y => absurd y k5, Or.inl rfl⟩
      · unfold fX11_comeBack
        rw [e2, if_neg (fun y => y k1), e5, if_neg (by rw [show (0 : Int32) = Int32.ofNat 0 from rfl, zo_eq (by omega) (by omega)]; exact k5)]
      · unfold fX19_comeBack
        rw [o2, zc_e, if_neg (fun y => y k1), o6, zc_e, if_neg (by rw [show (0 : Int32) = Int32.ofNat 0 from rfl, zo_eq (by omega) (by omega)]; exact k5)]
  · refine ⟨z, z, w, id, ?_, Or.inl ⟨p15, rfl⟩, ?_, ⟨pC, pM, pI, pJ, ⟨pWc, pWm, pWw⟩, pE, pU, p15⟩, zKe_rf _ _, zKm_rf _ _, fun _ => rfl, zMu_eq (fun _ => rfl), fun _ _ => rfl, fun y => absurd y k1, Or.inl rfl⟩
    · unfold fX11_comeBack
      rw [e2, if_pos k1]
    · unfold fX19_comeBack
      rw [o2, zc_e, if_pos k1]
