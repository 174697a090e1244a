/-! the model: what waits for a station is sent when it is heard -/
theorem nPut3_sW (E : Ev) (g : Sg) (q : Nat) (v : Nat → List Dg) : nPut3 E (sW g v) q = sW (nPut3 E g q) v := by
  unfold nPut3
  show (if (gT g (q / 8)).headD 0 = 0 then sW (nPut2 g q) v else sW (sS (nPut2 g q) (eN E)) v) = _
  split <;> rfl
theorem nPut_sW (E : Ev) (g : Sg) (q : Nat) (D : Dg) (v : Nat → List Dg) : nPut E (sW g v) q D = sW (nPut E g q D) v := by
  unfold nPut
  rw [nPut3_sW]
  show (if eU E (q / 8) = false then sW (nPut1 g q) v else if (gT g (q / 8)).headD 0 = 1 then sW (nPut3 E g q) v else if 512 < (gF g).length + (if (gT g (q / 8)).headD 0 = 2 then 2 else 1) then sW (sS (nPut3 E g q) (eN E)) v else sW (sF (nPut3 E g q) (gF g ++ nArr ((gT g (q / 8)).headD 0) (eN E) (eD E (q / 8)) D)) v) = _
  by_cases c : eU E (q / 8) = false
  · rw [if_pos c, if_pos c]
  rw [if_neg c, if_neg c]
  by_cases c1 : (gT g (q / 8)).headD 0 = 1
  · rw [if_pos c1, if_pos c1]
  rw [if_neg c1, if_neg c1]
  by_cases c2 : 512 < (gF g).length + (if (gT g (q / 8)).headD 0 = 2 then 2 else 1)
  · rw [if_pos c2, if_pos c2]
  · rw [if_neg c2, if_neg c2]
theorem nCut_sW (E : Ev) (b q : Nat) (to : Int32) (D : Dg) (sz : Nat) (v : Nat → List Dg) : ∀ (k a : Nat) (g : Sg), nCut E b q to D sz k a (sW g v) = sW (nCut E b q to D sz k a g) v := by
  intro k
  induction k with
  | zero => intro a g; rfl
  | succ k ih =>
    intro a g
    unfold nCut
    by_cases c : dl D ≤ a
    · rw [if_pos c, if_pos c]
    · rw [if_neg c, if_neg c]
      have : sC (sW g v) (zupd (gC (sW g v)) b (gC (sW g v) b + 1)) = sW (sC g (zupd (gC g) b (gC g b + 1))) v := rfl
      rw [this, nPut_sW, ih]
theorem nCarry_sW (E : Ev) (b : Nat) (g : Sg) (q : Nat) (to : Int32) (D : Dg) (v : Nat → List Dg) : nCarry E b (sW g v) q to D = sW (nCarry E b g q to D) v := by
  unfold nCarry
  by_cases c : dl D ≤ eL E (q / 8) - 20
  · rw [if_pos c, if_pos c, nPut_sW]
  · rw [if_neg c, if_neg c, nCut_sW]
theorem nFold_sW (E : Ev) (b q s : Nat) (v : Nat → List Dg) : ∀ (l : List Dg) (g : Sg), l.foldl (fun g x => nCarry E b g q (Int32.ofNat s) x) (sW g v) = sW (l.foldl (fun g x => nCarry E b g q (Int32.ofNat s) x) g) v := by
  intro l
  induction l with
  | nil => intro g; rfl
  | cons x l ih =>
    intro g
    rw [List.foldl_cons, List.foldl_cons, nCarry_sW, ih]
theorem zupd_zupd {α : Type} (f : Nat → α) (k : Nat) (u v : α) : zupd (zupd f k u) k v = zupd f k v := by
  funext i
  unfold zupd
  by_cases h : i = k
  · rw [if_pos h, if_pos h]
  · rw [if_neg h, if_neg h, if_neg h]
theorem zupd_id {α : Type} (f : Nat → α) (k : Nat) : zupd f k (f k) = f := by
  funext i
  unfold zupd
  by_cases h : i = k
  · rw [if_pos h, h]
  · rw [if_neg h]
theorem zm_firstWaiting {w : St} {T : Tp} {K : Int32 → Int32 → Int32 → Prop} {q s N : Nat} {W : List Dg} {l : List Nat} (h : zWqm w T K q W l) (hw : ∀ D, D ∈ W → wTo D < 8 ∧ D.1 11 = Int32.ofNat (wTo D)) (hs : s < 8) (hN : 17 < N) : fX19_firstWaiting N 0 q (Int32.ofNat s) w = (match wfi W s with | some j => (zc (fX18_takeWaiting N q (Int32.ofNat j) w) fun r5 z6 => some (r5, z6)) | none => some ((-1 : Int32), w)) := by
  obtain ⟨h1, h2, h3, h4⟩ := h
  unfold fX19_firstWaiting wfi
  refine (zlf0 (G := fun n' i => fX19_firstWaiting_2 N n' q (Int32.ofNat s) (Int32.ofNat i) w) (p := fun i => match W[i]? with | some D => wTo D == s | none => false) (f := fun i => (zc (fX18_takeWaiting N q (Int32.ofNat i) w) fun r5 z6 => some (r5, z6))) (r := some ((-1 : Int32), w)) (k := W.length) (by omega) ?_ ?_ ?_)
  · intro n' i hi hp
    have hD := h4 i W[i] l[i] (List.getElem?_eq_getElem hi) (List.getElem?_eq_getElem (by omega))
    have hwD := hw W[i] (List.getElem_mem hi)
    rw [List.getElem?_eq_getElem hi] at hp
    have hp : ¬ wTo W[i] = s := by simpa using hp
    show fX19_firstWaiting_2b N (fX19_firstWaiting_2 N n') q (Int32.ofNat s) (Int32.ofNat i) w = _
    unfold fX19_firstWaiting_2b
    rw [h3, if_neg (by rw [zo_le (by omega) (by omega)]; omega), zkk (by omega) (by omega), zoC (by omega), hD.2.1, hwD.2, if_pos (by rw [zo_eq (by omega) (by omega)]; exact hp), zl_e, zo_i1]
  · intro n' i hi hp
    have hD := h4 i W[i] l[i] (List.getElem?_eq_getElem hi) (List.getElem?_eq_getElem (by omega))
    have hwD := hw W[i] (List.getElem_mem hi)
    rw [List.getElem?_eq_getElem hi] at hp
    have hp : wTo W[i] = s := by simpa using hp
    show fX19_firstWaiting_2b N (fX19_firstWaiting_2 N n') q (Int32.ofNat s) (Int32.ofNat i) w = _
    unfold fX19_firstWaiting_2b
    rw [h3, if_neg (by rw [zo_le (by omega) (by omega)]; omega), zkk (by omega) (by omega), zoC (by omega), hD.2.1, hwD.2, if_neg (fun y => y (by rw [hp]))]
  · intro n'
    show fX19_firstWaiting_2b N (fX19_firstWaiting_2 N n') q (Int32.ofNat s) (Int32.ofNat W.length) w = _
    unfold fX19_firstWaiting_2b
    rw [h3, if_pos (Int32.le_refl _)]
theorem perm_eraseIdx {l : List Nat} {j : Nat} (h : j < l.length) : l.Perm (l[j] :: l.eraseIdx j) := by
  rw [List.eraseIdx_eq_take_drop_succ]
  have e : l = l.take j ++ l[j] :: l.drop (j + 1) := by rw [List.getElem_cons_drop, List.take_append_drop]
  have p : (l.take j ++ l[j] :: l.drop (j + 1)).Perm (l[j] :: (l.take j ++ l.drop (j + 1))) := List.perm_middle
  rw [← e] at p
  exact p
/-- one that waits is taken into the model's hands -/
theorem zm_takeN {w : St} {T : Tp} {K : Int32 → Int32 → Int32 → Prop} {g : Sg} {X TS TA TB : List Nat} {q j N : Nat} (hc : zTc T) (hq : tv T q) (h : zMd w T K g X TS TA TB) (hj : j < (gW g q).length) (hN : 17 < N) : ∃ w' d, fX18_takeWaiting N q (Int32.ofNat j) w = some (Int32.ofNat d, w') ∧ d < 2400 ∧ zMD w' T K d (gW g q)[j] ∧ zMd w' T K (sW g (zupd (gW g) q ((gW g q).eraseIdx j))) (d :: X) TS TA TB ∧ zKm X w w' := by
  obtain ⟨h1, h2, ms, mw, h3, h4, h5⟩ := h
  obtain ⟨w', d, t1, t2, t3, t4, t5, t6, t7⟩ := zm_takeWaiting (N := N) (h4.1 q hq) hj hN
  have f : zFr mX18_takeWaiting w w' := wX18_takeWaiting (Nat.and_self _) (zFr_rf _ _) _ _ t1
  have kk : ∀ H, zKm H w w' := fun H => zKm_fr f (by decide) t7
  have hjl : j < (mw q).length := by have := (h4.1 q hq).1; omega
  have hdj : (mw q)[j] = d := by
    rw [List.getElem?_eq_getElem hjl] at t2
    exact Option.some.inj t2
  refine ⟨w', d, t1, t3.1.1, zKm_MD (kk [d]) List.mem_cons_self t3, ⟨zTm_fr f (by decide) h1, zCm_fr f (by decide) h2, ms, zupd mw q ((mw q).eraseIdx j), ?_, ⟨fun p hp => ?_, fun p hp => ?_⟩, ?_⟩, kk X⟩
  · exact zFm_cg (fun i => zFr_gA f (by decide) 0 i) (zFr_gI f (by decide) (by decide) 0) (fun e D he => zKm_MD (kk (hold X ms mw)) (hold_mem.mpr (Or.inr (Or.inl he)))) h3
  · by_cases e : p = q
    · subst e
      have e1 : gW (sW g (zupd (gW g) p ((gW g p).eraseIdx j))) p = (gW g p).eraseIdx j := zupd_s _ _ _
      rw [e1, zupd_s]
      exact t4
    · have e1 : gW (sW g (zupd (gW g) q ((gW g q).eraseIdx j))) p = gW g p := zupd_n e
      rw [e1, zupd_n e]
      exact zWqm_cg (t5 18 12 p (fun y => e y.2.2)) (fun i => t6 170 p i (fun y => e y.2)) (fun i => t6 171 p i (fun y => e y.2)) (fun e' D he => zKm_MD (kk (hold X ms mw)) (hold_mem.mpr (Or.inr (Or.inr ⟨p, tv_192 hc hp, he⟩)))) (h4.1 p hp)
  · have e : p ≠ q := fun y => hp (by rw [y]; exact hq)
    rw [zupd_n e]
    exact h4.2 p hp
  · have hp1 : (mw q).Perm (d :: zupd mw q ((mw q).eraseIdx j) q) := by
      rw [zupd_s, ← hdj]
      exact perm_eraseIdx hjl
    exact zMp_fr f (by decide) (zMp_perm (hold_upd (tv_192 hc hq) (fun p hp => zupd_n hp) hp1) h5)
theorem zm_release {T : Tp} {E : Ev} {K : Int32 → Int32 → Int32 → Prop} {X TS TA TB : List Nat} {q s N : Nat} {to kind addr data : Int32} (hc : zTc T) (hw : zEw T E) (hq : tv T q) (hs : s < 8) (hX : X.length < 99) (hN : 1481 < N) :
    ∀ (m : Nat) (g : Sg) (w : St) (n : Nat), ((gW g q).filter (fun x => wTo x == s)).length = m → m < n → (∀ D, D ∈ gW g q → (zDw D ∧ ¬ D.1 2 = 5 ∧ ¬ D.1 2 = 6) ∧ wTo D < 8 ∧ D.1 11 = Int32.ofNat (wTo D)) → zTM w T → zEm w T E → zMd w T K g X TS TA TB →
    ∃ w', (zc (fX19_firstWaiting N 0 q (Int32.ofNat s) w) fun r z => fX19_arrive_37 N n 0 q (Int32.ofNat s) to kind addr data r z) = fX19_arrive_68 N 0 q (Int32.ofNat s) to kind addr data w' ∧ zMd w' T K (sW (((gW g q).filter (fun x => wTo x == s)).foldl (fun g x => nCarry E (tw T q) g q (Int32.ofNat s) x) g) (zupd (gW g) q ((gW g q).filter (fun x => wTo x != s)))) X TS TA TB ∧ zKm X w w' ∧ zFr (mX18_takeWaiting ||| mX19_carry ||| mX19_drop) w w' := by
  intro m
  induction m with
  | zero =>
    intro g w n hm hn hW hT hE hg
    obtain ⟨n, rfl⟩ : ∃ n', n = n' + 1 := ⟨n - 1, by omega⟩
    have hfil : (gW g q).filter (fun x => wTo x == s) = [] := List.length_eq_zero_iff.mp hm
    have hnone : wfi (gW g q) s = none := by
      cases h : wfi (gW g q) s with
      | none => rfl
      | some j =>
        obtain ⟨A, D, B, e1, -, e3, -⟩ := wfi_some h
        have : D ∈ (gW g q).filter (fun x => wTo x == s) := List.mem_filter.mpr ⟨by rw [e1]; simp, by simp [e3]⟩
        rw [hfil] at this; cases this
    obtain ⟨h1, h2, ms, mw, h3, h4, h5⟩ := hg
    have hfw := zm_firstWaiting (N := N) (h4.1 q hq) (fun D hD => (hW D hD).2) hs (by omega)
    rw [hnone] at hfw
    refine ⟨w, ?_, ?_, zKm_rf X w, zFr_rf _ _⟩
    · rw [hfw, zc_e]
      show fX19_arrive_37b N (fX19_arrive_37 N n) 0 q (Int32.ofNat s) to kind addr data (-1) w = _
      unfold fX19_arrive_37b
      rw [if_pos rfl]
    · rw [hfil, (wfi_none hnone).2, zupd_id]
      exact ⟨h1, h2, ms, mw, h3, h4, h5⟩
  | succ m ih =>
    intro g w n hm hn hW hT hE hg
    obtain ⟨n, rfl⟩ : ∃ n', n = n' + 1 := ⟨n - 1, by omega⟩
    cases hj : wfi (gW g q) s with
    | none =>
      rw [(wfi_none hj).1] at hm
      cases hm
    | some j =>
      obtain ⟨A, D, B, w1, w2, w3, w4, w5, w6⟩ := wfi_some hj
      have hjl : j < (gW g q).length := by rw [w1]; simp; omega
      have hWj : (gW g q)[j] = D := by
        have : (gW g q)[j]? = some D := by rw [w1, List.getElem?_append_right (by omega), w2]; simp
        rw [List.getElem?_eq_getElem hjl] at this
        exact Option.some.inj this
      have hmemD : D ∈ gW g q := by rw [w1]; simp
      have h4 := hg.2.2.choose_spec.choose_spec.2.1
      have hfw := zm_firstWaiting (N := N) (h4.1 q hq) (fun D hD => (hW D hD).2) hs (by omega)
      rw [hj] at hfw
      obtain ⟨wa, d, t1, t2, t3, t4, t5⟩ := zm_takeN (N := N) hc hq hg hjl (by omega)
      rw [hWj] at t3
      rw [w6] at t4
      have f1 : zFr mX18_takeWaiting w wa := wX18_takeWaiting (Nat.and_self _) (zFr_rf _ _) _ _ t1
      have Ta := zTM_fr f1 (by decide) hT
      have Ea := zEm_fr f1 (by decide) hE
      obtain ⟨wb, p1, p2, p3⟩ := zm_carry (N := N) (to := Int32.ofNat s) Ta hc Ea hw hq (List.mem_cons_self) (by simp only [List.length_cons]; omega) (hW D hmemD).1.1 (hW D hmemD).1.2 t4 t3 hN
      have f2 : zFr mX19_carry wa wb := wX19_carry (Nat.and_self _) (zFr_rf _ _) _ _ p1
      obtain ⟨wc, r1, r2, r3, r4⟩ := zm_dropN (N := N) hc p2.2.2
      have f123 : zFr (mX18_takeWaiting ||| mX19_carry ||| mX19_drop) w wc := zFr_tr (zFr_w f1 (by decide)) (zFr_tr (zFr_w f2 (by decide)) (zFr_w r4 (by decide)))
      rw [nCarry_sW] at p2 r2
      have hfA : (gW g q).filter (fun x => wTo x == s) = D :: (A ++ B).filter (fun x => wTo x == s) := by
        rw [w1, List.filter_append, w4, List.filter_cons, if_pos (by simp [w3]), List.filter_append, w4]; rfl
      have hfB : (A ++ B).filter (fun x => wTo x != s) = (gW g q).filter (fun x => wTo x != s) := by
        rw [w1, List.filter_append, List.filter_append, List.filter_cons, if_neg (by simp [w3])]
      have gw2 : gW (sW (nCarry E (tw T q) g q (Int32.ofNat s) D) (zupd (gW g) q (A ++ B))) q = A ++ B := zupd_s _ _ _
      obtain ⟨wd, s1, s2, s3, s4⟩ := ih (sW (nCarry E (tw T q) g q (Int32.ofNat s) D) (zupd (gW g) q (A ++ B))) wc n (by rw [gw2]; rw [hfA] at hm; simpa using hm) (by omega) (by rw [gw2]; exact fun G hG => hW G (by rw [w1]; rcases List.mem_append.mp hG with h | h <;> simp [h])) (zTM_fr f123 (by decide) hT) (zEm_fr f123 (by decide) hE) ⟨zTm_fr r4 (by decide) p2.1, zCm_fr r4 (by decide) p2.2.1, r2⟩
      refine ⟨wd, ?_, ?_, zKm_tr t5 (zKm_tr (zKm_sub (fun _ h => List.mem_cons_of_mem _ h) p3) (zKm_tr (zKm_sub (fun _ h => List.mem_cons_of_mem _ h) r3) s3)), zFr_tr f123 s4⟩
      · rw [hfw]
        dsimp only
        rw [t1, zc_e, zc_e]
        show fX19_arrive_37b N (fX19_arrive_37 N n) 0 q (Int32.ofNat s) to kind addr data (Int32.ofNat d) wa = _
        unfold fX19_arrive_37b
        rw [if_neg (zo_ne1 (by omega)), p1, zc_e, r1, zc_e]
        exact s1
      · rw [gw2, nFold_sW] at s2
        have e : sW (sW (((A ++ B).filter (fun x => wTo x == s)).foldl (fun g x => nCarry E (tw T q) g q (Int32.ofNat s) x) (nCarry E (tw T q) g q (Int32.ofNat s) D)) (zupd (gW g) q (A ++ B))) (zupd (gW (sW (nCarry E (tw T q) g q (Int32.ofNat s) D) (zupd (gW g) q (A ++ B)))) q ((A ++ B).filter (fun x => wTo x != s))) = sW (((gW g q).filter (fun x => wTo x == s)).foldl (fun g x => nCarry E (tw T q) g q (Int32.ofNat s) x) g) (zupd (gW g) q ((gW g q).filter (fun x => wTo x != s))) := by
          have e1 : gW (sW (nCarry E (tw T q) g q (Int32.ofNat s) D) (zupd (gW g) q (A ++ B))) = zupd (gW g) q (A ++ B) := rfl
          rw [e1, zupd_zupd, hfB, hfA]
          rfl
        rw [e] at s2
        exact s2
/-- the model's side of the network, with its hands X -/
def zMV (w : St) (T : Tp) (E : Ev) (g : Sg) (K : Int32 → Int32 → Int32 → Prop) (X TS TA TB : List Nat) : Prop := zTM w T ∧ zTc T ∧ zEm w T E ∧ zEw T E ∧ zMd w T K g X TS TA TB ∧ zAm w T g ∧ zHm w T g
/-- what is so of those that wait, kinds too -/
def zWk (T : Tp) (g : Sg) : Prop := ∀ q, tv T q → ∀ D, D ∈ gW g q → ¬ D.1 2 = 5 ∧ ¬ D.1 2 = 6
/-- a frame is heard: what waits for its station is sent -/
def nHeard (E : Ev) (b : Nat) (g : Sg) (q s : Nat) : Sg :=
  if nAsked g q s = true then nRel E b (sH g (zupd (gH g) q (zupd (gH g q) s (eN E)))) q s else sH g (zupd (gH g) q (zupd (gH g q) s (eN E)))
theorem zm_arriveHead {w : St} {T : Tp} {E : Ev} {K : Int32 → Int32 → Int32 → Prop} {g : Sg} {X TS TA TB : List Nat} {q s N : Nat} {to kind addr data : Int32} (h : zMV w T E g K X TS TA TB) (hg : zGw T E g) (hk : zWk T g) (hq : tv T q) (hs : s < 8) (hX : X.length < 99) (hN : 1481 < N) :
    ∃ w', fX19_arrive N 0 q (Int32.ofNat s) to kind addr data w = fX19_arrive_68 N 0 q (Int32.ofNat s) to kind addr data w' ∧ zMV w' T E (nHeard E (tw T q) g q s) K X TS TA TB ∧ zKm X w w' ∧ zFr (0x8000000000000000000000000000000000000000000000000000000000000000000000000000000000000000000000000000000000000000000000000000000000000000000000000000000000000000000000000000000000000000000000000000000000000000000000000000000000000000000000000000000000000000000000000000000000000000000000000000000000000000000000000000000000000000000000000 ||| (mX18_endAsking ||| (mX18_takeWaiting ||| (mX19_carry ||| mX19_drop)))) w w' := by
  obtain ⟨hT, hc, hE, hw, hd, hA, hH⟩ := h
  obtain ⟨gW', gA', gH', gWA, g1⟩ := hg
  let gh : Sg := sH g (zupd (gH g) q (zupd (gH g q) s (eN E)))
  let w1 : St := zsA w 167 q s (Int32.ofNat (eN E))
  have f1 : zFr 0x8000000000000000000000000000000000000000000000000000000000000000000000000000000000000000000000000000000000000000000000000000000000000000000000000000000000000000000000000000000000000000000000000000000000000000000000000000000000000000000000000000000000000000000000000000000000000000000000000000000000000000000000000000000000000000000000000 w w1 := zFr_A (zFr_rf _ _) (by decide)
  have T1 := zTM_fr f1 (by decide) hT
  have E1 := zEm_fr f1 (by decide) hE
  have d1 : zMd w1 T K gh X TS TA TB := ⟨zTm_fr (g := g) f1 (by decide) hd.1, zCm_fr (g := g) f1 (by decide) hd.2.1, zNm_fr (g := g) f1 (by decide) hc (fun _ _ _ => rfl) hd.2.2⟩
  have A1 : zAm w1 T g := zAm_fr f1 (by decide) hA
  have H1 : zHm w1 T gh := by
    intro p t hp ht
    show zgA (zsA w 167 q s (Int32.ofNat (eN E))) 167 p t = if zupd (gH g) q (zupd (gH g q) s (eN E)) p t = 0 then (-1000000 : Int32) else Int32.ofNat (zupd (gH g) q (zupd (gH g q) s (eN E)) p t)
    rw [zgA_sA]
    by_cases e : p = q
    · subst e
      rw [zupd_s]
      by_cases e2 : t = s
      · subst e2
        rw [if_pos ⟨rfl, rfl, rfl⟩, zupd_s, if_neg (by omega)]
      · rw [if_neg (fun y => e2 y.2.2), zupd_n e2]
        exact hH p t hp ht
    · rw [if_neg (fun y => e y.2.1), zupd_n e]
      exact hH p t hp ht
  have k1 : zKm X w w1 := zKm_fr f1 (by decide) (fun _ _ _ => rfl)
  have ask := zm_askingOf (N := N) A1 gA' hq hs (by omega)
  unfold fX19_arrive nHeard
  rw [zkk (by omega) (by omega), zl_e, zoC (by omega), hE.1, ask, zc_e]
  cases ha : aix (gA g q) s with
  | none =>
    have hn : nAsked g q s = false := aix_none ha
    rw [hn, if_neg (show ¬ (false = true) by decide)]
    dsimp only
    rw [if_pos rfl]
    exact ⟨w1, rfl, ⟨T1, hc, E1, hw, d1, A1, H1⟩, k1, zFr_w f1 (by decide)⟩
  | some k =>
    obtain ⟨a1, a2, a3⟩ := aix_some (gA' q hq).1 ha
    have hn : nAsked g q s = true := a2
    have hl8 := zAw_len gA' hq
    rw [hn, if_pos rfl]
    dsimp only
    rw [if_neg (zo_ne1 (by omega))]
    obtain ⟨w2, r1, r2, r3, r4, r5⟩ := zm_endAsking (N := N) A1 gA' hq ha (by omega)
    have f2 : zFr mX18_endAsking w1 w2 := wX18_endAsking (Nat.and_self _) (zFr_rf _ _) _ _ r1
    have k2 : zKm X w1 w2 := zKm_fr f2 (by decide) r5
    have d2 : zMd w2 T K gh X TS TA TB := ⟨zTm_fr f2 (by decide) d1.1, zCm_fr f2 (by decide) d1.2.1, zNm_fr f2 (by decide) hc r5 d1.2.2⟩
    rw [r1, zc_e]
    obtain ⟨w3, s1, s2, s3, s4⟩ := zm_release (N := N) (to := to) (kind := kind) (addr := addr) (data := data) hc hw hq hs hX hN _ gh w2 N rfl (by have := List.length_filter_le (fun x => wTo x == s) (gW gh q); have hz := (d2.2.2.choose_spec.choose_spec.2.1.1 q hq).2.1; omega) (fun D hD => ⟨⟨(gW' q hq D hD).1, hk q hq D hD⟩, (gW' q hq D hD).2⟩) (zTM_fr f2 (by decide) T1) (zEm_fr f2 (by decide) E1) d2
    have f3 := s4
    have hfold : ∀ (l : List Dg) (g : Sg), gA (l.foldl (fun g x => nCarry E (tw T q) g q (Int32.ofNat s) x) g) = gA g ∧ gH (l.foldl (fun g x => nCarry E (tw T q) g q (Int32.ofNat s) x) g) = gH g := by
      intro l
      induction l with
      | nil => intro g; exact ⟨rfl, rfl⟩
      | cons x l ih =>
        intro g
        obtain ⟨i2, i3⟩ := ih (nCarry E (tw T q) g q (Int32.ofNat s) x)
        obtain ⟨c1, c2, c3⟩ := nCarry_W E (tw T q) g q (Int32.ofNat s) x
        exact ⟨i2.trans c2, i3.trans c3⟩
    have hf := hfold ((gW gh q).filter (fun x => wTo x == s)) gh
    refine ⟨w3, s1, ⟨zTM_fr f3 (by decide) (zTM_fr f2 (by decide) T1), hc, zEm_fr f3 (by decide) (zEm_fr f2 (by decide) E1), hw, s2, zAm_fr f3 (by decide) r2, ?_⟩, zKm_tr k1 (zKm_tr k2 s3), zFr_tr (zFr_w f1 (by decide)) (zFr_tr (zFr_w f2 (by decide)) (zFr_w f3 (by decide)))⟩
    have := zHm_fr f3 (by decide) (zHm_fr f2 (by decide) H1)
    unfold zHm at this ⊢
    have e : gH (nRel E (tw T q) gh q s) = gH gh := hf.2
    rw [e]
    exact this
