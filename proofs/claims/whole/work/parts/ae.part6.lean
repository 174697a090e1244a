/-! datagrams that are put together, the model: one is begun; all together -/
theorem zm_get216 {b d N p : Nat} {x3 : Int32} : ∀ (m i n : Nat) (w : St), i + m = 192 → m < n → (∀ u, u < i → zgA w 166 p u = 0) → ∃ w', fX19_get_216 N n 0 b (Int32.ofNat d) x3 p (Int32.ofNat i) w = fX19_get_239 N 0 b (Int32.ofNat d) x3 w' ∧ (∀ u, u < 192 → zgA w' 166 p u = 0) ∧ (∀ k o i, ¬ (k = 166 ∧ o = p) → zgA w' k o i = zgA w k o i) ∧ (∀ k j o, zgI w' k j o = zgI w k j o) ∧ (∀ k o i, zgL w' k o i = zgL w k o i) ∧ (∀ k o i, zgQ w' k o i = zgQ w k o i) ∧ (∀ k o i, zgR w' k o i = zgR w k o i) := by
  intro m
  induction m with
  | zero =>
    intro i n w hi hn hu
    obtain ⟨n, rfl⟩ : ∃ k, n = k + 1 := ⟨n - 1, by omega⟩
    refine ⟨w, ?_, fun u hu2 => hu u (by omega), fun _ _ _ _ => rfl, fun _ _ _ => rfl, fun _ _ _ => rfl, fun _ _ _ => rfl, fun _ _ _ => rfl⟩
    show fX19_get_216b N (fX19_get_216 N n) 0 b (Int32.ofNat d) x3 p (Int32.ofNat i) w = _
    unfold fX19_get_216b
    rw [if_pos (by rw [show (192 : Int32) = Int32.ofNat 192 from rfl, zo_le (by omega) (by omega)]; omega)]
  | succ m ih =>
    intro i n w hi hn hu
    obtain ⟨n, rfl⟩ : ∃ k, n = k + 1 := ⟨n - 1, by omega⟩
    obtain ⟨w', r1, r2, r3, r4, r5, r6, r7⟩ := ih (i + 1) n (zsA w 166 p i 0) (by omega) (by omega) (fun u hu2 => by
      rw [zgA_sA]
      by_cases c : u = i
      · rw [if_pos ⟨rfl, rfl, c⟩]
      · rw [if_neg (fun y => c y.2.2)]; exact hu u (by omega))
    refine ⟨w', ?_, r2, fun k o j h => by rw [r3 k o j h, zgA_sA, if_neg (fun y => h ⟨y.1, y.2.1⟩)], r4, r5, r6, r7⟩
    show fX19_get_216b N (fX19_get_216 N n) 0 b (Int32.ofNat d) x3 p (Int32.ofNat i) w = _
    unfold fX19_get_216b
    rw [if_neg (by rw [show (192 : Int32) = Int32.ofNat 192 from rfl, zo_le (by omega) (by omega)]; omega), zkk (by omega) (by omega), zoC (by omega), zl_e, zl_e, zo_i1]
    exact r1
theorem zm_get131 {w : St} {b d N t : Nat} {L : List Pe} {D : Dg} (h : zPmS w b L) (hl : L.length < 4) (hd : d < 2400) (hm : ∀ j, j < 4 → md w d j = D.1 j) (hnow : zgI w 19 24 0 = Int32.ofNat t) (hD5 : dw (dFull D) = dw D) (hN : 192 < N) :
    ∃ w' p, 4 * b ≤ p ∧ p < 4 * b + 4 ∧ fX19_get_131 N 0 b (Int32.ofNat d) w = fX19_get_239 N 0 b (Int32.ofNat d) (Int32.ofNat L.length) w' ∧ (∀ s, zPmS w' b (L ++ [((s, p), dFull D, t, fun _ => false)])) ∧ (∀ k j o, ¬ (k = 12 ∧ j = 11 ∧ o = b) → ¬ (k = 17 ∧ j < 6 ∧ 4 * b ≤ o ∧ o < 4 * b + 4) → zgI w' k j o = zgI w k j o) ∧ (∀ k o i, ¬ (k = 166 ∧ 4 * b ≤ o ∧ o < 4 * b + 4) → zgA w' k o i = zgA w k o i) ∧ (∀ k o i, zgL w' k o i = zgL w k o i) ∧ (∀ k o j, zgQ w' k o j = zgQ w k o j) ∧ (∀ k o i, zgR w' k o i = zgR w k o i) := by
  obtain ⟨⟨h1, h2⟩, ⟨rest, p1, p2, p3, p4⟩, h5⟩ := h
  cases rest with
  | nil => simp at p1; omega
  | cons p rest =>
  have hp := p3 p (by simp)
  have q : zgQ w 148 b L.length = some p := p4 L.length p (by rw [List.getElem?_append_right (by simp)]; simp)
  have pne : ∀ e, e ∈ L → pep e ≠ p := fun e he y => by
    rw [List.nodup_append] at p2
    exact p2.2.2 (pep e) (List.mem_map.mpr ⟨e, he, rfl⟩) p List.mem_cons_self y
  let w1 : St := zsI w 12 11 b (Int32.ofNat (L.length + 1))
  let w2 : St := zsI (zsI (zsI (zsI (zsI (zsI w1 17 0 p (D.1 0)) 17 1 p (D.1 1)) 17 2 p (D.1 2)) 17 3 p (D.1 3)) 17 4 p (Int32.ofNat t)) 17 5 p (-1)
  have I1 : ∀ k j o, zgI w1 k j o = if k = 12 ∧ j = 11 ∧ o = b then Int32.ofNat (L.length + 1) else zgI w k j o := fun _ _ _ => rfl
  have I2 : ∀ k j o, zgI w2 k j o = if k = 17 ∧ o = p ∧ j < 6 then (if j = 0 then D.1 0 else if j = 1 then D.1 1 else if j = 2 then D.1 2 else if j = 3 then D.1 3 else if j = 4 then Int32.ofNat t else -1) else zgI w1 k j o := fun k j o => by
    show zgI (zsI (zsI (zsI (zsI (zsI (zsI w1 17 0 p (D.1 0)) 17 1 p (D.1 1)) 17 2 p (D.1 2)) 17 3 p (D.1 3)) 17 4 p (Int32.ofNat t)) 17 5 p (-1)) k j o = _
    simp only [zgI_sI]
    by_cases c : k = 17 ∧ o = p
    · obtain ⟨rfl, rfl⟩ := c
      by_cases j0 : j = 0
      · subst j0; simp
      by_cases j1 : j = 1
      · subst j1; simp
      by_cases j2 : j = 2
      · subst j2; simp
      by_cases j3 : j = 3
      · subst j3; simp
      by_cases j4 : j = 4
      · subst j4; simp
      by_cases j5 : j = 5
      · subst j5; simp
      have : ¬ j < 6 := by omega
      simp [j0, j1, j2, j3, j4, j5, this]
    · have n : ∀ i, ¬ (k = 17 ∧ j = i ∧ o = p) := fun i y => c ⟨y.1, y.2.2⟩
      simp only [n, if_false]
      rw [if_neg (fun y => c ⟨y.1, y.2.1⟩)]
  have o : ∀ j (ww : St), j < 4 → (∀ i, zgA ww 172 0 i = zgA w 172 0 i) → fX19_of N 0 (Int32.ofNat d) (Int32.ofNat j) ww = some (D.1 j, ww) := fun j ww hj hA => by
    have : md ww d j = D.1 j := (hA _).trans (hm j hj)
    rw [← this]; exact zm_of hd (by omega)
  have o0 : ∀ ww : St, (∀ i, zgA ww 172 0 i = zgA w 172 0 i) → fX19_of N 0 (Int32.ofNat d) 0 ww = some (D.1 0, ww) := fun ww => o 0 ww (by omega)
  have o1 : ∀ ww : St, (∀ i, zgA ww 172 0 i = zgA w 172 0 i) → fX19_of N 0 (Int32.ofNat d) 1 ww = some (D.1 1, ww) := fun ww => o 1 ww (by omega)
  have o2 : ∀ ww : St, (∀ i, zgA ww 172 0 i = zgA w 172 0 i) → fX19_of N 0 (Int32.ofNat d) 2 ww = some (D.1 2, ww) := fun ww => o 2 ww (by omega)
  have o3 : ∀ ww : St, (∀ i, zgA ww 172 0 i = zgA w 172 0 i) → fX19_of N 0 (Int32.ofNat d) 3 ww = some (D.1 3, ww) := fun ww => o 3 ww (by omega)
  obtain ⟨w', r1, r2, r3, r4, r5, r6, r7⟩ := zm_get216 (b := b) (d := d) (N := N) (p := p) (x3 := Int32.ofNat L.length) 192 0 N w2 rfl hN (fun u hu => by omega)
  have run : fX19_get_131 N 0 b (Int32.ofNat d) w = fX19_get_239 N 0 b (Int32.ofNat d) (Int32.ofNat L.length) w' := by
    unfold fX19_get_131
    rw [h2, zl_e, zo_i1, zl_e, zkk (by omega) (by omega), zl_e, zoC (by omega)]
    show zc (fX19_of N 0 (Int32.ofNat d) 0 w1) _ = _
    rw [o0 w1 (fun _ => rfl), zc_e]
    show zd (zgQ w 148 b L.length) _ = _
    rw [q, zd_e, zl_e, o1 (zsI w1 17 0 p (D.1 0)) (fun _ => rfl), zc_e, zl_e, o2 (zsI (zsI w1 17 0 p (D.1 0)) 17 1 p (D.1 1)) (fun _ => rfl), zc_e, zl_e, o3 (zsI (zsI (zsI w1 17 0 p (D.1 0)) 17 1 p (D.1 1)) 17 2 p (D.1 2)) (fun _ => rfl), zc_e, zl_e]
    have hn2 : ∀ ww : St, (∀ j o, zgI ww 19 j o = zgI w 19 j o) → zgI ww 19 24 0 = Int32.ofNat t := fun ww hw => (hw 24 0).trans hnow
    rw [hn2 (zsI (zsI (zsI (zsI w1 17 0 p (D.1 0)) 17 1 p (D.1 1)) 17 2 p (D.1 2)) 17 3 p (D.1 3)) (fun j o => by rw [zgI_sI, if_neg (by omega), zgI_sI, if_neg (by omega), zgI_sI, if_neg (by omega), zgI_sI, if_neg (by omega), I1, if_neg (by omega)]), zl_e, zl_e]
    exact r1
  have hm' : ∀ s, (L ++ [((s, p), dFull D, t, fun _ => false)]).map pep ++ rest = L.map pep ++ (p :: rest) := fun s => by
    rw [List.map_append, List.append_assoc]; rfl
  refine ⟨w', p, hp.1, hp.2, run, fun s => ⟨⟨by simp; omega, ?_⟩, ⟨rest, ?_, ?_, ?_, ?_⟩, fun e he => ?_⟩, fun k j o n1 n2 => ?_, fun k o i n => ?_, fun k o i => r5 k o i, fun k o j => r6 k o j, fun k o i => r7 k o i⟩
  · rw [r4, I2, if_neg (by omega), I1, if_pos ⟨rfl, rfl, rfl⟩]; simp
  · rw [hm']; exact p1
  · rw [hm']; exact p2
  · rw [hm']; exact p3
  · rw [hm']; intro k x hx; rw [r6]; exact p4 k x hx
  · rcases List.mem_append.mp he with c | c
    · have ne := pne e c
      exact zPem_keep (fun j => by rw [r4, I2, if_neg (fun y => ne y.2.1), I1, if_neg (by omega)]) (fun u => by rw [r3 166 _ u (fun y => ne y.2)]; rfl) (h5 e c)
    · have : e = ((s, p), dFull D, t, fun _ => false) := by simpa using c
      subst this
      refine ⟨fun j hj => ?_, ?_, ?_, fun u hu => r2 u hu⟩
      · show zgI w' 17 j p = (dFull D).1 j
        rw [r4, I2, if_pos ⟨rfl, rfl, by omega⟩]
        have : j = 0 ∨ j = 1 ∨ j = 2 ∨ j = 3 := by omega
        rcases this with rfl | rfl | rfl | rfl <;> rfl
      · show zgI w' 17 4 p = _
        rw [r4, I2, if_pos ⟨rfl, rfl, by omega⟩]; rfl
      · show zgI w' 17 5 p = _
        rw [r4, I2, if_pos ⟨rfl, rfl, by omega⟩]; rfl
  · rw [r4, I2, if_neg (fun y => n2 ⟨y.1, y.2.2, by omega, by omega⟩), I1, if_neg n1]
  · rw [r3 k o i (fun y => n ⟨y.1, by omega, by omega⟩)]; rfl
/-- the model's get of a piece, when it has its place already -/
theorem zm_getHit {w : St} {b d N : Nat} {A B : List Pe} {e : Pe} {D : Dg} (h : zPmS w b (A ++ e :: B)) (hd : d < 2400) (hm : ∀ j, j < 4 → md w d j = D.1 j) (m8 : md w d 8 = 1) (hde : dSb (peD e) D = true) (hu : ∀ e2, e2 ∈ A ++ B → dSb (peD e2) D = false) (hN : 192 < N) : fX19_get N 0 b (Int32.ofNat d) w = fX19_get_239 N 0 b (Int32.ofNat d) (Int32.ofNat A.length) w := by
  have hl4 := h.1.1
  obtain ⟨r, -, r2, -, r4⟩ := zm_get22 (N := N) h hd hm (A ++ e :: B).length 0 N (-1) (by omega) (by omega)
  have hr := r2 A.length e (by omega) (by simp) hde (fun k2 e2 _ he2 hd2 => by
    apply Classical.byContradiction
    intro hne
    have : e2 ∈ A ++ B := by
      by_cases c : k2 < A.length
      · rw [List.getElem?_append_left c] at he2
        exact List.mem_append.mpr (Or.inl (List.mem_of_getElem? he2))
      · rw [List.getElem?_append_right (by omega), show k2 - A.length = (k2 - A.length - 1) + 1 by omega, List.getElem?_cons_succ] at he2
        exact List.mem_append.mpr (Or.inr (List.mem_of_getElem? he2))
    rw [hu e2 this] at hd2
    cases hd2)
  have hAl : A.length < 4 := by simp at hl4; omega
  rw [hr, if_pos (zo_ne1 (by omega))] at r4
  have o8 : fX19_of N 0 (Int32.ofNat d) 8 w = some (1, w) := by rw [← m8]; exact zm_of (k := 8) hd (by omega)
  unfold fX19_get
  rw [o8, zc_e, if_pos (by decide)]
  exact r4
/-- the model's get of a piece that has no place yet -/
theorem zm_getNew {w : St} {b d N t : Nat} {L : List Pe} {D : Dg} (h : zPmS w b L) (hd : d < 2400) (hm : ∀ j, j < 4 → md w d j = D.1 j) (m8 : md w d 8 = 1) (hno : ∀ e, e ∈ L → dSb (peD e) D = false) (hnow : zgI w 19 24 0 = Int32.ofNat t) (hN : 192 < N) :
    ∃ w' p, 4 * b ≤ p ∧ p < 4 * b + 4 ∧ fX19_get N 0 b (Int32.ofNat d) w = fX19_get_239 N 0 b (Int32.ofNat d) (Int32.ofNat (if L.length = 4 then L.tail else L).length) w' ∧ (∀ s, zPmS w' b ((if L.length = 4 then L.tail else L) ++ [((s, p), dFull D, t, fun _ => false)])) ∧ zgI w' 19 27 0 = (if L.length = 4 then Int32.ofNat t else zgI w 19 27 0) ∧ (∀ k j o, ¬ (k = 12 ∧ j = 11 ∧ o = b) → ¬ (k = 17 ∧ j < 6 ∧ 4 * b ≤ o ∧ o < 4 * b + 4) → ¬ (k = 19 ∧ j = 27) → zgI w' k j o = zgI w k j o) ∧ (∀ k o i, ¬ (k = 166 ∧ 4 * b ≤ o ∧ o < 4 * b + 4) → zgA w' k o i = zgA w k o i) ∧ (∀ k o i, zgL w' k o i = zgL w k o i) ∧ (∀ k o j, ¬ (k = 148 ∧ o = b) → zgQ w' k o j = zgQ w k o j) ∧ (∀ k o i, zgR w' k o i = zgR w k o i) := by
  have hl4 := h.1.1
  have h11 := h.1.2
  obtain ⟨r, -, -, r3, r4⟩ := zm_get22 (N := N) h hd hm L.length 0 N (-1) (by omega) (by omega)
  have hr := r3 (fun k e _ he => hno e (List.mem_of_getElem? he))
  have o8 : fX19_of N 0 (Int32.ofNat d) 8 w = some (1, w) := by rw [← m8]; exact zm_of (k := 8) hd (by omega)
  rw [hr, if_neg (fun y => y rfl), h11] at r4
  have r4 : fX19_get_22 N N 0 b (Int32.ofNat d) (-1) 0 w = _ := r4
  by_cases c : L.length = 4
  · rw [if_pos c]
    cases L with
    | nil => simp at c
    | cons e0 L =>
    have hl3 : L.length = 3 := by simpa using c
    obtain ⟨w1, s1, s2, s3, s4, s5, s6, s7⟩ := zm_endPieces (A := []) (N := N) h (by omega)
    have s1 : fX19_endPieces N b 0 w = some (0, w1) := s1
    have s2 : zPmS w1 b L := s2
    have hn1 : zgI w1 19 24 0 = Int32.ofNat t := (s3 19 24 0 (by omega)).trans hnow
    let w2 : St := zsI w1 19 27 0 (Int32.ofNat t)
    have st : fX19_stir N 0 w1 = some (0, w2) := by
      unfold fX19_stir
      rw [hn1, zl_e]
    have I2 : ∀ k j o, ¬ (k = 19 ∧ j = 27) → zgI w2 k j o = zgI w1 k j o := fun k j o n => by
      show zgI (zsI w1 19 27 0 _) k j o = _
      rw [zgI_sI, if_neg (fun y => n ⟨y.1, y.2.1⟩)]
    have P2 : zPmS w2 b L := ⟨⟨s2.1.1, (I2 12 11 b (by omega)).trans s2.1.2⟩, s2.2.1, fun e he => zPem_keep (fun j => I2 17 j _ (by omega)) (fun _ => rfl) (s2.2.2 e he)⟩
    obtain ⟨w', p, p1, p2, t1, t2, t3, t4, t5, t6, t7⟩ := zm_get131 (N := N) (t := t) P2 (by omega) hd (fun j hj => (show md w2 d j = md w d j from s4 172 0 _).trans (hm j hj)) ((I2 19 24 0 (by omega)).trans hn1) rfl hN
    refine ⟨w', p, p1, p2, ?_, t2, ?_, fun k j o n1 n2 n3 => (t3 k j o n1 n2).trans ((I2 k j o n3).trans (s3 k j o n1)), fun k o i n => (t4 k o i n).trans (s4 k o i), fun k o i => (t5 k o i).trans (s5 k o i), fun k o j n => (t6 k o j).trans (s6 k o j n), fun k o i => (t7 k o i).trans (s7 k o i)⟩
    · unfold fX19_get
      rw [o8, zc_e, if_pos (by decide), r4, c, if_neg (by decide), s1, zc_e, st, zc_e]
      exact t1
    · rw [if_pos c, t3 19 27 0 (by omega) (by omega)]
      show zgI (zsI w1 19 27 0 _) 19 27 0 = _
      rw [zgI_sI, if_pos ⟨rfl, rfl, rfl⟩]
  · rw [if_neg c]
    obtain ⟨w', p, p1, p2, t1, t2, t3, t4, t5, t6, t7⟩ := zm_get131 (N := N) (t := t) h (by omega) hd hm hnow rfl hN
    refine ⟨w', p, p1, p2, ?_, t2, ?_, fun k j o n1 n2 _ => t3 k j o n1 n2, t4, t5, fun k o j _ => t6 k o j, t7⟩
    · unfold fX19_get
      rw [o8, zc_e, if_pos (by decide), r4, if_pos (by rw [show (4 : Int32) = Int32.ofNat 4 from rfl, zo_eq (by omega) (by omega)]; exact c)]
      exact t1
    · rw [if_neg c]
      exact t3 19 27 0 (by omega) (by omega)
