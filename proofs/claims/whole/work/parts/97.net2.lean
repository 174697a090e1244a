/-! the class: what waits for a station is sent; a datagram is sent or waits -/
/-- the class's side of the network, X: parcels on their way in the class's hands -/
def zNC (z : St) (T : Tp) (E : Ev) (g : Sg) (X : List Nat) : Prop := zTC z T ∧ zTc T ∧ zEc z T E ∧ zEw T E ∧ zNd z T g X ∧ zWc z T g ∧ zAc z T g ∧ zHc z T g ∧ zNo z ∧ X.length ≤ 1
/-- what is so of the network, whoever's side: rows of those that wait and askings belong together -/
def zGw (T : Tp) (E : Ev) (g : Sg) : Prop := zWw T g ∧ zAw T E g ∧ zHw T E g ∧ (∀ q s, tv T q → nAsked g q s = (gW g q).any (fun x => wTo x == s)) ∧ 1 ≤ eN E
/-- what the class's side needs of it -/
def zGc (T : Tp) (E : Ev) (g : Sg) : Prop := zWw T g ∧ zAw T E g ∧ zHw T E g ∧ 1 ≤ eN E
theorem zGw_c {T : Tp} {E : Ev} {g : Sg} (h : zGw T E g) : zGc T E g := ⟨h.1, h.2.1, h.2.2.1, h.2.2.2.2⟩
theorem zX1 {z : St} {fr : List Fr} {X : List Nat} (h : zQq z fr X) : ∀ x, x ∈ X → 2 ≤ x ∧ x < 515 := by
  obtain ⟨Fs, S, -, -, hin, -⟩ := h
  intro x hx
  exact hin x (by simp [hx])
theorem zc_release2 {T : Tp} {E : Ev} {X : List Nat} {q s N : Nat} (hc : zTc T) (hw : zEw T E) (hq : tv T q) (hs : s < 8) (hX : X.length ≤ 1) (hN : 1481 < N) :
    ∀ (m : Nat) (W : List Dg) (g : Sg) (z : St) (i n : Nat), (W.filter (fun x => wTo x == s)).length = m → i + m ≤ 16 → m < n → (∀ D, D ∈ W → zDw D ∧ wTo D < 8 ∧ D.1 11 = Int32.ofNat (wTo D)) → zTC z T → zEc z T E → zNd z T g X → zAc z T g → zAw T E g → zHc z T g → zWq z q W →
    ∃ z', fX11_release_2 N n 0 q (Int32.ofNat s) (Int32.ofNat i) z = some (0, z') ∧ zNd z' T ((W.filter (fun x => wTo x == s)).foldl (fun g x => nCarry E (tw T q) g q (Int32.ofNat s) x) g) X ∧ zWq z' q (W.filter (fun x => wTo x != s)) ∧ zAc z' T (sA g (zupd (gA g) q ((gA g q).filter (fun a => a.1 != s)))) ∧ zHc z' T g ∧ (∀ p V, p ≠ q → zWq z p V → zWq z' p V) ∧ zKp X z z' := by
  intro m
  induction m with
  | zero =>
    intro W g z i n hm hi hn hW hT hE hg hA hAw hH hz
    obtain ⟨n, rfl⟩ : ∃ n', n = n' + 1 := ⟨n - 1, by omega⟩
    have hfil : W.filter (fun x => wTo x == s) = [] := List.length_eq_zero_iff.mp hm
    have hnone : wfi W s = none := by
      cases h : wfi W s with
      | none => rfl
      | some j =>
        obtain ⟨A, D, B, e1, -, e3, -⟩ := wfi_some h
        have : D ∈ W.filter (fun x => wTo x == s) := List.mem_filter.mpr ⟨by rw [e1]; simp, by simp [e3]⟩
        rw [hfil] at this; cases this
    have hfw := zc_firstWaitingFor (N := N) hz (fun D hD => (hW D hD).2) hs (by omega)
    rw [hnone] at hfw
    obtain ⟨z', e1, e2, e3, e4⟩ := zc_endAsking (N := N) hA hAw hq hs (by omega)
    have f : zFr mX8_endAsking z z' := wX8_endAsking (Nat.and_self _) (zFr_rf _ _) _ _ e1
    have kk : zKp X z z' := fun u _ => ⟨fun j => e4 7 j u (by simp), fun i => zFr_gA f (by decide) u i⟩
    have hcg : ∀ p V, zWq z p V → zWq z' p V := fun p V h => zWq_cg (e4 8 12 p (by simp)) (fun i => zFr_gQ f (by decide) p i) (fun u _ _ => ⟨fun j => e4 7 j u (by simp), fun i => zFr_gA f (by decide) u i⟩) h
    refine ⟨z', ?_, ?_, ?_, e2, zHc_fr f (by decide) hH, fun p V _ h => hcg p V h, kk⟩
    · show fX11_release_2b N (fX11_release_2 N n) 0 q (Int32.ofNat s) (Int32.ofNat i) z = _
      unfold fX11_release_2b
      rw [show (16 : Int32) = Int32.ofNat 16 from rfl, if_neg (by rw [zo_lt (by omega) (by omega)]; omega), hfw, zc_e, if_neg (by decide)]
      unfold fX11_release_41
      rw [e1, zc_e]
    · rw [hfil]
      exact ⟨zTr_fr f (by decide) hg.1, zCt_fr f (by decide) hg.2.1, zQq_fr f (by decide) hg.2.2⟩
    · have : W.filter (fun x => wTo x != s) = W := (wfi_none hnone).2
      rw [this]
      exact hcg q W hz
  | succ m ih =>
    intro W g z i n hm hi hn hW hT hE hg hA hAw hH hz
    obtain ⟨n, rfl⟩ : ∃ n', n = n' + 1 := ⟨n - 1, by omega⟩
    cases hj : wfi W s with
    | none =>
      rw [(wfi_none hj).1] at hm
      cases hm
    | some j =>
      obtain ⟨A, D, B, w1, w2, w3, w4, w5, w6⟩ := wfi_some hj
      have hw17 := hz.1
      have hjl : j < W.length := by rw [w1]; simp; omega
      have hWj : W[j] = D := by
        have : W[j]? = some D := by rw [w1, List.getElem?_append_right (by omega), w2]; simp
        rw [List.getElem?_eq_getElem hjl] at this
        exact Option.some.inj this
      have hfw := zc_firstWaitingFor (N := N) hz (fun D hD => (hW D hD).2) hs (by omega)
      rw [hj] at hfw
      obtain ⟨z1, x, t1, t2, t3, t4, t5, t6, t7, t8⟩ := zc_takeWaiting (N := N) hz hjl (by omega)
      rw [hWj] at t4
      have f1 : zFr mX8_takeWaiting z z1 := wX8_takeWaiting (Nat.and_self _) (zFr_rf _ _) _ _ t1
      have k1 : zKp X z z1 := fun u _ => ⟨fun j => t6 7 j u (by simp), fun i => t8 125 u i⟩
      have hD1 : zPC 11 z1 x D := zPC_le (by omega) (zPC_cg (fun j _ => t6 7 j x (by simp)) (fun i => t8 125 x i) t4)
      have g1 : zNd z1 T g X := ⟨zTr_fr f1 (by decide) hg.1, zCt_fr f1 (by decide) hg.2.1, zQq_fr f1 (by decide) hg.2.2⟩
      have hmemD : D ∈ W := by rw [w1]; simp
      obtain ⟨z2, p1, p2, p3⟩ := zc_putOn (N := N) (to := Int32.ofNat s) (zTC_fr f1 (by decide) hT) hc (zEc_fr f1 (by decide) hE) hw g1 hq (Or.inr (Or.inl (by omega))) hD1 (hW D hmemD).1 hX hN
      have f2 : zFr mX11_putOn z1 z2 := wX11_putOn (Nat.and_self _) (zFr_rf _ _) _ _ p1
      have hcW := nCarry_W E (tw T q) g q (Int32.ofNat s) D
      have cg2 : ∀ p V, zWq z1 p V → zWq z2 p V := fun p V h => zWq_cg (zFr_gI f2 (by decide) (by decide) p) (fun i => zFr_gQ f2 (by decide) p i) (fun u hu _ => p3 u (by omega)) h
      have cg1 : ∀ p V, p ≠ q → zWq z p V → zWq z1 p V := fun p V hp h => zWq_cg (t6 8 12 p (fun y => hp y.2.2)) (fun i => t7 130 p i (fun y => hp y.2)) (fun u _ _ => ⟨fun j => t6 7 j u (by simp), fun i => t8 125 u i⟩) h
      have hfA : W.filter (fun x => wTo x == s) = D :: (A ++ B).filter (fun x => wTo x == s) := by
        rw [w1, List.filter_append, w4, List.filter_cons, if_pos (by simp [w3]), List.filter_append, w4]; rfl
      have hfB : (A ++ B).filter (fun x => wTo x != s) = W.filter (fun x => wTo x != s) := by
        rw [w1, List.filter_append, List.filter_append, List.filter_cons, if_neg (by simp [w3])]
      rw [w6] at t5
      have hAc1 : zAc z2 T (nCarry E (tw T q) g q (Int32.ofNat s) D) := by
        have := zAc_fr f2 (by decide) (zAc_fr f1 (by decide) hA)
        unfold zAc at this ⊢
        rw [hcW.2.1]
        exact this
      have hAw1 : zAw T E (nCarry E (tw T q) g q (Int32.ofNat s) D) := by
        unfold zAw at hAw ⊢
        rw [hcW.2.1]
        exact hAw
      have hH1 : zHc z2 T (nCarry E (tw T q) g q (Int32.ofNat s) D) := by
        have := zHc_fr f2 (by decide) (zHc_fr f1 (by decide) hH)
        unfold zHc at this ⊢
        rw [hcW.2.2]
        exact this
      obtain ⟨z3, r1, r2, r3, r4, r5, r6, r7⟩ := ih (A ++ B) (nCarry E (tw T q) g q (Int32.ofNat s) D) z2 (i + 1) n (by rw [hfA] at hm; simpa using hm) (by omega) (by omega) (fun G hG => hW G (by rw [w1]; rcases List.mem_append.mp hG with h | h <;> simp [h])) (zTC_fr f2 (by decide) (zTC_fr f1 (by decide) hT)) (zEc_fr f2 (by decide) (zEc_fr f1 (by decide) hE)) p2 hAc1 hAw1 hH1 (cg2 q _ t5)
      refine ⟨z3, ?_, ?_, ?_, ?_, ?_, fun p V hp h => r6 p V hp (cg2 p V (cg1 p V hp h)), zKp_tr (zKp_tr k1 p3) r7⟩
      · show fX11_release_2b N (fX11_release_2 N n) 0 q (Int32.ofNat s) (Int32.ofNat i) z = _
        unfold fX11_release_2b
        rw [show (16 : Int32) = Int32.ofNat 16 from rfl, if_neg (by rw [zo_lt (by omega) (by omega)]; omega), hfw, zc_e, if_pos (zo_ge (by omega)), t1, zc_e, zd_e, p1, zc_e, zl_e, zo_i1]
        exact r1
      · rw [hfA]; exact r2
      · rw [← hfB]; exact r3
      · have e : sA (nCarry E (tw T q) g q (Int32.ofNat s) D) (zupd (gA (nCarry E (tw T q) g q (Int32.ofNat s) D)) q ((gA (nCarry E (tw T q) g q (Int32.ofNat s) D) q).filter (fun a => a.1 != s))) = sA (nCarry E (tw T q) g q (Int32.ofNat s) D) (zupd (gA g) q ((gA g q).filter (fun a => a.1 != s))) := by rw [hcW.2.1]
        rw [e] at r4
        exact r4
      · unfold zHc at r5 ⊢
        rw [hcW.2.2] at r5
        exact r5
theorem zc_release {z : St} {T : Tp} {E : Ev} {g : Sg} {X : List Nat} {q s N : Nat} (h : zNC z T E g X) (hg : zGw T E g) (hq : tv T q) (hs : s < 8) (hN : 1481 < N) : ∃ z', fX11_release N 0 q (Int32.ofNat s) z = some (0, z') ∧ zNC z' T E (nRel E (tw T q) g q s) X ∧ zKp X z z' := by
  obtain ⟨hT, hc, hE, hw, hd, hW, hA, hH, hno, hX⟩ := h
  obtain ⟨gW', gA', gH', gWA, g1⟩ := hg
  obtain ⟨z', r1, r2, r3, r4, r5, r6, r7⟩ := zc_release2 (N := N) hc hw hq hs hX hN ((gW g q).filter (fun x => wTo x == s)).length (gW g q) g z 0 N rfl (by have := List.length_filter_le (fun x => wTo x == s) (gW g q); have := (hW q hq).1; omega) (by have := List.length_filter_le (fun x => wTo x == s) (gW g q); have := (hW q hq).1; omega) (gW' q hq) hT hE hd hA gA' hH (hW q hq).2
  have f : zFr mX11_release z z' := wX11_release (Nat.and_self _) (zFr_rf _ _) _ _ r1
  have hfold : ∀ (l : List Dg) (g : Sg), gW (l.foldl (fun g x => nCarry E (tw T q) g q (Int32.ofNat s) x) g) = gW g ∧ gA (l.foldl (fun g x => nCarry E (tw T q) g q (Int32.ofNat s) x) g) = gA g ∧ gH (l.foldl (fun g x => nCarry E (tw T q) g q (Int32.ofNat s) x) g) = gH g := by
    intro l
    induction l with
    | nil => intro g; exact ⟨rfl, rfl, rfl⟩
    | cons x l ih =>
      intro g
      obtain ⟨i1, i2, i3⟩ := ih (nCarry E (tw T q) g q (Int32.ofNat s) x)
      obtain ⟨c1, c2, c3⟩ := nCarry_W E (tw T q) g q (Int32.ofNat s) x
      exact ⟨i1.trans c1, i2.trans c2, i3.trans c3⟩
  have hf := hfold ((gW g q).filter (fun x => wTo x == s)) g
  refine ⟨z', r1, ⟨zTC_fr f (by decide) hT, hc, zEc_fr f (by decide) hE, hw, r2, fun p hp => ?_, r4, ?_, zNo_kp r7 hno, hX⟩, r7⟩
  · by_cases e : p = q
    · subst e
      have e1 : gW (nRel E (tw T p) g p s) p = (gW g p).filter (fun x => wTo x != s) := zupd_s _ _ _
      rw [e1]
      exact ⟨by have := List.length_filter_le (fun x => wTo x != s) (gW g p); have := (hW p hq).1; omega, r3⟩
    · have e1 : gW (nRel E (tw T q) g q s) p = gW g p := zupd_n e
      rw [e1]
      exact ⟨(hW p hp).1, r6 p _ e (hW p hp).2⟩
  · unfold zHc at r5 ⊢
    have e1 : gH (nRel E (tw T q) g q s) = gH g := hf.2.2
    rw [e1]
    exact r5
/-- what a hand leaves: the parcels that are not of the calendar, not the note, not of the port's row -/
def zKh (X : List Nat) (q : Nat) (z z' : St) : Prop := ∀ u, u = 0 ∨ (515 ≤ u ∧ ¬ (579 + 17 * q ≤ u ∧ u < 596 + 17 * q)) ∨ u ∈ X → (∀ j, zgI z' 7 j u = zgI z 7 j u) ∧ ∀ i, zgA z' 125 u i = zgA z 125 u i
theorem zc_hand52 {z : St} {T : Tp} {E : Ev} {g : Sg} {X : List Nat} {q s x N : Nat} {D : Dg} (h : zNC z T E g X) (hWw : zWw T g) (hAw : zAw T E g) (hq : tv T q) (hs : s < 8) (hx : x < 579) (hD : zPC 11 z x D) (hDw : zDw D) (hN : 17 < N) : ∃ z', fX11_hand_52 N 0 q (Int32.ofNat s) x z = some (0, z') ∧ zNC z' T E (nWait E g q s D) X ∧ zKh X q z z' := by
  obtain ⟨hT, hc, hE, hw, hd, hW, hA, hH, hno, hX⟩ := h
  obtain ⟨hl16, hWq⟩ := hW q hq
  have hXr := zX1 hd.2.2
  obtain ⟨z1, l1, l2, l3, l4⟩ := zc_letWait (N := N) (s := s) hWq (by omega) hx hD hDw
  have f1 : zFr mX8_letWait z z1 := wX8_letWait (Nat.and_self _) (zFr_rf _ _) _ _ l1
  have i7 : ∀ j u, ¬ (579 + 17 * q ≤ u ∧ u < 596 + 17 * q) → zgI z1 7 j u = zgI z 7 j u := fun j u hu => l3 7 j u (by simp) (fun y => hu y.2)
  have d1 : zNd z1 T g X := ⟨zTr_fr f1 (by decide) hd.1, zCt_fr f1 (by decide) hd.2.1, zQq_cg (fun u j h1 h2 => i7 j u (by omega)) (fun u i h1 h2 => l4 u i (by omega)) (zFr_gI f1 (by decide) (by decide) 0) (fun u => zFr_gR f1 (by decide) (by decide) u) (zFr_gR f1 (by decide) (by decide) 0) (fun c => zFr_gQ f1 (by decide) 0 c) (fun c => zFr_gQ f1 (by decide) 0 c) hd.2.2⟩
  have cgo : ∀ p V, p ≠ q → zWq z p V → zWq z1 p V := fun p V hp h => zWq_cg (l3 8 12 p (fun y => hp y.2.2) (by simp)) (fun i => zFr_gQ f1 (by decide) p i) (fun u h1 h2 => ⟨fun j => i7 j u (by omega), fun i => l4 u i (by omega)⟩) h
  have kh1 : zKh X q z z1 := fun u hu => by
    have hu' : ¬ (579 + 17 * q ≤ u ∧ u < 596 + 17 * q) := by
      rcases hu with h | h | h
      · omega
      · exact h.2
      · have := hXr u h; omega
    exact ⟨fun j => i7 j u hu', fun i => l4 u i hu'⟩
  have no1 : zNo z1 := ⟨(i7 3 1 (by omega)).trans hno.1, fun i => (l4 1 i (by omega)).trans (hno.2 i)⟩
  have hWl : (gW g q ++ [dWait D s]).length = (gW g q).length + 1 := by simp
  have e12 : zgI z1 8 12 q = Int32.ofNat ((gW g q).length + 1) := by rw [l2.2.1, hWl]
  unfold fX11_hand_52 nWait
  rw [l1, zc_e, e12, show (16 : Int32) = Int32.ofNat 16 from rfl]
  by_cases c : (gW g q).length < 16
  · rw [if_pos (by rw [zo_le (by omega) (by omega)]; omega), if_pos c]
    refine ⟨z1, rfl, ⟨zTC_fr f1 (by decide) hT, hc, zEc_fr f1 (by decide) hE, hw, d1, fun p hp => ?_, zAc_fr f1 (by decide) hA, zHc_fr f1 (by decide) hH, no1, hX⟩, kh1⟩
    by_cases e : p = q
    · subst e
      have e1 : gW (sW g (zupd (gW g) p (gW g p ++ [dWait D s]))) p = gW g p ++ [dWait D s] := zupd_s _ _ _
      rw [e1]
      exact ⟨by rw [hWl]; omega, l2⟩
    · have e1 : gW (sW g (zupd (gW g) q (gW g q ++ [dWait D s]))) p = gW g p := zupd_n e
      rw [e1]
      exact ⟨(hW p hp).1, cgo p _ e (hW p hp).2⟩
  · rw [if_neg (by rw [zo_le (by omega) (by omega)]; omega), if_neg c]
    obtain ⟨o, W', hoW⟩ : ∃ o W', gW g q ++ [dWait D s] = o :: W' := by
      cases hh : gW g q with
      | nil => exact ⟨_, _, rfl⟩
      | cons a l => exact ⟨a, l ++ [dWait D s], rfl⟩
    rw [hoW] at hWl l2 ⊢
    dsimp only
    simp only [List.length_cons] at hWl
    have hWall : ∀ G, G ∈ o :: W' → wTo G < 8 ∧ G.1 11 = Int32.ofNat (wTo G) := by
      intro G hG
      rw [← hoW] at hG
      rcases List.mem_append.mp hG with h | h
      · exact (hWw q hq G h).2
      · obtain rfl : G = dWait D s := by simpa using h
        have : wTo (dWait D s) = s := zoC (by omega)
        rw [this]
        exact ⟨hs, rfl⟩
    obtain ⟨z2, y, t1, t2, t3, t4, t5, t6, t7, t8⟩ := zc_takeWaiting (N := N) l2 (k := 0) (by simp) (by omega)
    have t1 : fX8_takeWaiting N q (0 : Int32) z1 = some (some y, z2) := t1
    have t4 : zPC 12 z1 y o := t4
    have t5 : zWq z2 q W' := t5
    have f2 : zFr mX8_takeWaiting z1 z2 := wX8_takeWaiting (Nat.and_self _) (zFr_rf _ _) _ _ t1
    have ho := hWall o List.mem_cons_self
    have eto : zgI z2 7 11 y = Int32.ofNat (wTo o) := (t6 7 11 y (by simp)).trans ((t4.1 11 (by omega) (by omega)).trans ho.2)
    have hfw := zc_firstWaitingFor (N := N) t5 (fun G hG => hWall G (List.mem_cons_of_mem _ hG)) ho.1 (by omega)
    have kh2 : zKh X q z1 z2 := fun u _ => ⟨fun j => t6 7 j u (by simp), fun i => t8 125 u i⟩
    have kh12 : zKh X q z z2 := fun u hu => ⟨fun j => ((kh2 u hu).1 j).trans ((kh1 u hu).1 j), fun i => ((kh2 u hu).2 i).trans ((kh1 u hu).2 i)⟩
    have cg2 : ∀ p V, p ≠ q → zWq z1 p V → zWq z2 p V := fun p V hp h => zWq_cg (t6 8 12 p (fun y => hp y.2.2)) (fun i => t7 130 p i (fun y => hp y.2)) (fun u _ _ => ⟨fun j => t6 7 j u (by simp), fun i => t8 125 u i⟩) h
    have d2 : zNd z2 T g X := ⟨zTr_fr f2 (by decide) d1.1, zCt_fr f2 (by decide) d1.2.1, zQq_fr f2 (by decide) d1.2.2⟩
    have no2 : zNo z2 := ⟨(t6 7 3 1 (by simp)).trans no1.1, fun i => (t8 125 1 i).trans (no1.2 i)⟩
    have T2 := zTC_fr f2 (by decide) (zTC_fr f1 (by decide) hT)
    have E2 := zEc_fr f2 (by decide) (zEc_fr f1 (by decide) hE)
    have A2 := zAc_fr f2 (by decide) (zAc_fr f1 (by decide) hA)
    have H2 := zHc_fr f2 (by decide) (zHc_fr f1 (by decide) hH)
    -- behind the stirring
    have stirW : ∀ (z3 : St) (g3 : Sg), gW g3 = gW g → (∀ p V, zWq z2 p V → zWq z3 p V) → ∀ p, tv T p → (gW (sW g3 (zupd (gW g) q W')) p).length ≤ 16 ∧ zWq (zsI z3 11 5 0 (Int32.ofNat (eN E))) p (gW (sW g3 (zupd (gW g) q W')) p) := by
      intro z3 g3 hg3 hcg p hp
      have cst : ∀ V, zWq z3 p V → zWq (zsI z3 11 5 0 (Int32.ofNat (eN E))) p V := fun V h => zWq_cg (by rw [zgI_sI, if_neg (by simp)]) (fun _ => rfl) (fun u _ _ => ⟨fun j => by rw [zgI_sI, if_neg (by simp)], fun _ => rfl⟩) h
      by_cases e : p = q
      · subst e
        have e1 : gW (sW g3 (zupd (gW g) p W')) p = W' := zupd_s _ _ _
        rw [e1]
        exact ⟨by omega, cst _ (hcg p _ t5)⟩
      · have e1 : gW (sW g3 (zupd (gW g) q W')) p = gW g p := zupd_n e
        rw [e1]
        exact ⟨(hW p hp).1, cst _ (hcg p _ (cg2 p _ e (cgo p _ e (hW p hp).2)))⟩
    have hany := wfi_any (W := W') (s := wTo o)
    rw [t1, zc_e, zd_e, eto, hfw, zc_e, eto]
    unfold fX11_hand_95 fX11_stir
    cases hf : wfi W' (wTo o) with
    | some j =>
      rw [hf] at hany
      have hany : W'.any (fun x => wTo x == wTo o) = true := hany.symm
      rw [if_pos (zo_ge (by have := (wfi_some hf); obtain ⟨A, D', B, e1, e2, -⟩ := this; have : A.length < W'.length := by rw [e1]; simp
                            omega)), zl_e, zc_e, E2.1, hany, if_pos rfl]
      have f3 : zFr 0x2000000000000000000000000000000000000000000000000000000000000000000000000000000000000000000000000000000000000000000000000000000000000000000000000000000000000000000000000000000000 z2 (zsI z2 11 5 0 (Int32.ofNat (eN E))) := zFr_I (zFr_rf _ _) (by decide)
      refine ⟨_, rfl, ⟨zTC_fr f3 (by decide) T2, hc, zEc_fr f3 (by decide) E2, hw, zNd_now d2, stirW z2 g rfl (fun _ _ h => h), zAc_fr f3 (by decide) A2, zHc_fr f3 (by decide) H2, ?_, hX⟩, ?_⟩
      · exact no2
      · intro u hu
        exact ⟨fun j => by rw [zgI_sI, if_neg (by simp)]; exact (kh12 u hu).1 j, (kh12 u hu).2⟩
    | none =>
      rw [hf] at hany
      have hany : W'.any (fun x => wTo x == wTo o) = false := hany.symm
      rw [if_neg (by decide), hany, if_neg (by simp)]
      obtain ⟨z3, a1, a2, a3, a4⟩ := zc_endAsking (N := N) A2 hAw hq ho.1 (by omega)
      have f3 : zFr mX8_endAsking z2 z3 := wX8_endAsking (Nat.and_self _) (zFr_rf _ _) _ _ a1
      have E3 := zEc_fr f3 (by decide) E2
      rw [a1, zc_e, zl_e, zc_e, E3.1]
      have f4 : zFr 0x2000000000000000000000000000000000000000000000000000000000000000000000000000000000000000000000000000000000000000000000000000000000000000000000000000000000000000000000000000000000 z3 (zsI z3 11 5 0 (Int32.ofNat (eN E))) := zFr_I (zFr_rf _ _) (by decide)
      have d3 : zNd z3 T g X := ⟨zTr_fr f3 (by decide) d2.1, zCt_fr f3 (by decide) d2.2.1, zQq_fr f3 (by decide) d2.2.2⟩
      have cg3 : ∀ p V, zWq z2 p V → zWq z3 p V := fun p V h => zWq_cg (a4 8 12 p (by simp)) (fun i => zFr_gQ f3 (by decide) p i) (fun u _ _ => ⟨fun j => a4 7 j u (by simp), fun i => zFr_gA f3 (by decide) u i⟩) h
      refine ⟨_, rfl, ⟨zTC_fr f4 (by decide) (zTC_fr f3 (by decide) T2), hc, zEc_fr f4 (by decide) E3, hw, zNd_now d3, stirW z3 g rfl cg3, zAc_fr f4 (by decide) a2, zHc_fr f4 (by decide) (zHc_fr f3 (by decide) H2), ?_, hX⟩, ?_⟩
      · exact ⟨(a4 7 3 1 (by simp)).trans no2.1, fun i => (zFr_gA f3 (by decide) 1 i).trans (no2.2 i)⟩
      · intro u hu
        exact ⟨fun j => by rw [zgI_sI, if_neg (by simp), a4 7 j u (by simp)]; exact (kh12 u hu).1 j, fun i => (zFr_gA f3 (by decide) u i).trans ((kh12 u hu).2 i)⟩
theorem zc_hand {z : St} {T : Tp} {E : Ev} {g : Sg} {X : List Nat} {q s x N : Nat} {D : Dg} (h : zNC z T E g X) (hg : zGc T E g) (hq : tv T q) (hs : s < 8) (hx : x = 0 ∨ (515 ≤ x ∧ x < 579) ∨ x ∈ X) (hD : zPC 11 z x D) (hDw : zDw D) (hN : 1481 < N) : ∃ z', fX11_hand N 0 q (Int32.ofNat s) x z = some (0, z') ∧ zNC z' T E (nHand E (tw T q) g q s D) X ∧ zKh X q z z' := by
  obtain ⟨hT, hc, hE, hw, hd, hW, hA, hH, hno, hX⟩ := h
  obtain ⟨gW', gA', gH', g1⟩ := hg
  have hXr := zX1 hd.2.2
  have hx579 : x < 579 := by
    rcases hx with h | h | h
    · omega
    · omega
    · have := hXr x h; omega
  unfold fX11_hand nHand
  rw [hE.1, zc_knows hH gH' hw hq hs, zc_e]
  by_cases ck : nKnows E g q s = true
  · rw [ck, if_pos rfl, if_neg (by decide)]
    obtain ⟨z', p1, p2, p3⟩ := zc_putOn (N := N) (to := Int32.ofNat s) hT hc hE hw hd hq (by rcases hx with h | h | h; exact Or.inl (by omega); exact Or.inr (Or.inl (by omega)); exact Or.inr (Or.inr h)) hD hDw hX hN
    have f : zFr mX11_putOn z z' := wX11_putOn (Nat.and_self _) (zFr_rf _ _) _ _ p1
    have hcW := nCarry_W E (tw T q) g q (Int32.ofNat s) D
    rw [p1, zc_e]
    refine ⟨z', rfl, ⟨zTC_fr f (by decide) hT, hc, zEc_fr f (by decide) hE, hw, p2, ?_, ?_, ?_, zNo_kp p3 hno, hX⟩, fun u hu => p3 u (by rcases hu with h | h | h; exact Or.inl (by omega); exact Or.inr (Or.inl (by omega)); exact Or.inr (Or.inr h))⟩
    · have := zWc_fr f (by decide) (fun u hu => p3 u (by omega)) hW
      unfold zWc at this ⊢
      rw [hcW.1]; exact this
    · have := zAc_fr f (by decide) hA
      unfold zAc at this ⊢
      rw [hcW.2.1]; exact this
    · have := zHc_fr f (by decide) hH
      unfold zHc at this ⊢
      rw [hcW.2.2]; exact this
  · have ck' : nKnows E g q s = false := by simpa using ck
    rw [ck', if_pos (show zbi false = 0 from rfl), if_neg (by decide), zc_isAsked hA gA' hw hq hs, zc_e]
    by_cases ca : nAsked g q s = true
    · rw [ca, if_pos (by decide), if_pos rfl]
      exact zc_hand52 ⟨hT, hc, hE, hw, hd, hW, hA, hH, hno, hX⟩ gW' gA' hq hs hx579 hD hDw (by omega)
    · have ca' : nAsked g q s = false := by simpa using ca
      rw [ca', if_neg (by decide), if_neg (by simp)]
      obtain ⟨z1, b1, b2, b3, b4⟩ := zc_beginAsking (N := N) hA gA' hw g1 hq hs ca'
      have f1 : zFr mX8_beginAsking z z1 := wX8_beginAsking (Nat.and_self _) (zFr_rf _ _) _ _ b1
      have T1 := zTC_fr f1 (by decide) hT
      have E1 := zEc_fr f1 (by decide) hE
      obtain ⟨q0, q1, q2, q3, q4⟩ := T1.2.2.2 _ hq
      have e5 := (T1.2.1.1 _ (tv_24 hc hq)).2.1
      rw [hE.1, b1, zc_e, zl_e, q1, zd_e]
      unfold fX5_addressOf
      rw [e5, zad_e (tv_24 hc hq) hs, zc_e]
      have d1 : zNd z1 T (sA g (zupd (gA g) q (gA g q ++ [(s, eN E)]))) X := ⟨zTr_fr f1 (by decide) hd.1, zCt_fr f1 (by decide) hd.2.1, zQq_fr f1 (by decide) hd.2.2⟩
      have no1 : zNo z1 := ⟨(b4 7 3 1 (by simp)).trans hno.1, fun i => (zFr_gA f1 (by decide) 1 i).trans (hno.2 i)⟩
      obtain ⟨z2, n1, n2, n3, n4⟩ := zc_putNote (N := N) (to := -1) (kind := 5) (addr := zad (8 * (q / 8) + s)) (by decide) T1 hc E1 hw d1 no1 hq hX (fun y => by have := hXr 1 y; omega) (by omega)
      have f2 : zFr mX11_putNote z1 z2 := wX11_putNote (Nat.and_self _) (zFr_rf _ _) _ _ n1
      rw [n1, zc_e]
      have hnW := nPut_W E (sA g (zupd (gA g) q (gA g q ++ [(s, eN E)]))) q (nQ q (dNote q 5 (zad (8 * (q / 8) + s))) (-1) 0 28)
      have k1 : ∀ u, (∀ j, zgI z1 7 j u = zgI z 7 j u) ∧ ∀ i, zgA z1 125 u i = zgA z 125 u i := fun u => ⟨fun j => b4 7 j u (by simp), fun i => zFr_gA f1 (by decide) u i⟩
      have NC2 : zNC z2 T E (nAsk E (sA g (zupd (gA g) q (gA g q ++ [(s, eN E)]))) q s) X := by
        refine ⟨zTC_fr f2 (by decide) T1, hc, zEc_fr f2 (by decide) E1, hw, n2, ?_, ?_, ?_, n4, hX⟩
        · have h1 : zWc z1 T g := zWc_fr f1 (by decide) (fun u _ => k1 u) hW
          have := zWc_fr f2 (by decide) (fun u hu => n3 u (by omega) (Or.inr (Or.inl hu))) h1
          unfold zWc at this ⊢
          have e : gW (nAsk E (sA g (zupd (gA g) q (gA g q ++ [(s, eN E)]))) q s) = gW g := hnW.1
          rw [e]; exact this
        · have := zAc_fr f2 (by decide) b2
          unfold zAc at this ⊢
          have e : gA (nAsk E (sA g (zupd (gA g) q (gA g q ++ [(s, eN E)]))) q s) = gA (sA g (zupd (gA g) q (gA g q ++ [(s, eN E)]))) := hnW.2.1
          rw [e]; exact this
        · have := zHc_fr f2 (by decide) (zHc_fr f1 (by decide) hH)
          unfold zHc at this ⊢
          have e : gH (nAsk E (sA g (zupd (gA g) q (gA g q ++ [(s, eN E)]))) q s) = gH g := hnW.2.2.2
          rw [e]; exact this
      have kx : (∀ j, zgI z2 7 j x = zgI z 7 j x) ∧ ∀ i, zgA z2 125 x i = zgA z 125 x i := by
        have hx1 : x ≠ 1 := by
          rcases hx with h | h | h
          · omega
          · omega
          · have := hXr x h; omega
        have := n3 x hx1 (by rcases hx with h | h | h; exact Or.inl (by omega); exact Or.inr (Or.inl (by omega)); exact Or.inr (Or.inr h))
        exact ⟨fun j => (this.1 j).trans ((k1 x).1 j), fun i => (this.2 i).trans ((k1 x).2 i)⟩
      have W2 : zWw T (nAsk E (sA g (zupd (gA g) q (gA g q ++ [(s, eN E)]))) q s) := by
        unfold zWw at gW' ⊢
        have e : gW (nAsk E (sA g (zupd (gA g) q (gA g q ++ [(s, eN E)]))) q s) = gW g := hnW.1
        rw [e]; exact gW'
      have A2 : zAw T E (nAsk E (sA g (zupd (gA g) q (gA g q ++ [(s, eN E)]))) q s) := by
        unfold zAw at b3 ⊢
        have e : gA (nAsk E (sA g (zupd (gA g) q (gA g q ++ [(s, eN E)]))) q s) = gA (sA g (zupd (gA g) q (gA g q ++ [(s, eN E)]))) := hnW.2.1
        rw [e]; exact b3
      obtain ⟨z3, h1, h2, h3⟩ := zc_hand52 (N := N) NC2 W2 A2 hq hs hx579 (zPC_cg (fun j _ => kx.1 j) kx.2 hD) hDw (by omega)
      refine ⟨z3, h1, h2, fun u hu => ?_⟩
      have hu1 : u ≠ 1 := by
        rcases hu with h | h | h
        · omega
        · omega
        · have := hXr u h; omega
      have k2 := n3 u hu1 (by rcases hu with h | h | h; exact Or.inl (by omega); exact Or.inr (Or.inl (by omega)); exact Or.inr (Or.inr h))
      exact ⟨fun j => ((h3 u hu).1 j).trans ((k2.1 j).trans ((k1 u).1 j)), fun i => ((h3 u hu).2 i).trans ((k2.2 i).trans ((k1 u).2 i))⟩
