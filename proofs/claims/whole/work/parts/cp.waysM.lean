/-! ways, the model: all nets -/
/-- only the ways of router b change (and what is reckoned for them) -/
def zYq (b : Nat) (w w' : St) : Prop := (∀ k j o, zgI w' k j o = zgI w k j o) ∧ (∀ k o i, ¬ (k = 190 ∧ o = 0) → ¬ (o = b ∧ (k = 155 ∨ k = 156 ∨ k = 157)) → zgA w' k o i = zgA w k o i) ∧ (∀ k o i, zgL w' k o i = zgL w k o i) ∧ (∀ k o i, zgQ w' k o i = zgQ w k o i) ∧ ∀ k o i, zgR w' k o i = zgR w k o i
theorem zYq_rf (b : Nat) (z : St) : zYq b z z := ⟨fun _ _ _ => rfl, fun _ _ _ _ _ => rfl, fun _ _ _ => rfl, fun _ _ _ => rfl, fun _ _ _ => rfl⟩
theorem zYq_tr {b : Nat} {x y z : St} (h1 : zYq b x y) (h2 : zYq b y z) : zYq b x z := ⟨fun k j o => (h2.1 k j o).trans (h1.1 k j o), fun k o i n m => (h2.2.1 k o i n m).trans (h1.2.1 k o i n m), fun k o i => (h2.2.2.1 k o i).trans (h1.2.2.1 k o i), fun k o i => (h2.2.2.2.1 k o i).trans (h1.2.2.2.1 k o i), fun k o i => (h2.2.2.2.2 k o i).trans (h1.2.2.2.2 k o i)⟩
theorem zYq_m {b : Nat} {w w' : St} (f : zYm w w') : zYq b w w' := ⟨f.1, fun k o i h _ => f.2.1 k o i h, f.2.2⟩
theorem zYq_p {b n : Nat} {w w' : St} (f : zYp b n w w') : zYq b w w' := ⟨f.1, fun k o i _ h => f.2.1 k o i (by omega), f.2.2⟩
theorem zYq_b {b c : Nat} {w w' : St} {Ba : Nat → Option Ad} (f : zYq c w w') (h : zRmB w b Ba) : zRmB w' b Ba := fun r hr => by
  have h := h r hr
  have em : ∀ x k, mad w' x k = mad w x k := fun x k => f.2.1 178 0 _ (by omega) (by omega)
  cases q : Ba r with
  | none => rw [q] at h; exact (f.2.1 150 b r (by omega) (by omega)).trans h
  | some a =>
    rw [q] at h
    obtain ⟨x, h1, h2, h3, h4⟩ := h
    refine ⟨x, h1, (f.2.1 150 b r (by omega) (by omega)).trans h2, (f.2.1 151 b r (by omega) (by omega)).trans h3, ?_⟩
    unfold zAdw at h4 ⊢
    simp only [em]
    exact h4
theorem zYq_fm : ∀ k, k < 191 → (k = 190 ∨ k = 155 ∨ k = 156 ∨ k = 157) → mX19_ways.testBit (1180 + k) = true := by decide +kernel
theorem zYq_fr {b : Nat} {w w' : St} (f : zYq b w w') : zFr mX19_ways w w' := ⟨fun k j o _ _ => ⟨f.1 k j o, f.2.2.2.2 k j o⟩, fun k o i hm => ⟨f.2.1 k o i (fun y => by rw [zYq_fm k (by omega) (Or.inl y.1)] at hm; cases hm) (fun y => by rw [zYq_fm k (by omega) (Or.inr y.2)] at hm; cases hm), f.2.2.1 k o i, f.2.2.2.1 k o i⟩⟩
def mWay (T : Tp) (E : Ev) (tl : Nat → Nat) (b : Nat) (Ba : Nat → Option Ad) (D : Nat → Nat → Nat) (n : Nat) : Wy := rWay T E tl b (fun n => wMod Ba D (fun t => pTl (bE Ba t) n) b) n
theorem zYx_cg {w w' : St} {b n : Nat} {W : Wy} (h5 : zgA w' 155 b n = zgA w 155 b n) (h6 : zgA w' 156 b n = zgA w 156 b n) (h7 : zgA w' 157 b n = zgA w 157 b n) (h : zYx w b n W) : zYx w' b n W := by
  unfold zYx at h ⊢
  rw [h5, h6, h7]; exact h
theorem zm_ways {w : St} {T : Tp} {E : Ev} {tl : Nat → Nat} {b N : Nat} {Ba : Nat → Option Ad} (hT : zTM w T) (hc : zTc T) (hTl : zTlM w T tl) (hb : b < tb T) (hr : tr T b = true) (hup : ∀ j, j < tp T b → zgI w 18 5 (tq T b j) = zbi (eU E (tq T b j / 8))) (hB : zRmB w b Ba) (hBn : zBn Ba) (h23 : zgI w 12 23 b = 1) (hN : 256 < N) :
    ∃ w' D, fX19_ways N 0 b w = some (0, w') ∧ zFW Ba 16 D ∧ (∀ n, n < 24 → zYx w' b n (mWay T E tl b Ba D n)) ∧ zYq b (zsI w 12 23 b (0 : Int32)) w' := by
  have b16 : b < 16 := Nat.lt_of_lt_of_le hb hc.1
  have t6 := tp_le hc hb
  obtain ⟨-, k0, -, k3, kq⟩ := hT.2.1.2 b hb
  obtain ⟨w1, hw1⟩ : ∃ u, u = zsI w 12 23 b (0 : Int32) := ⟨_, rfl⟩
  have I1 : ∀ k j o, ¬ (k = 12 ∧ j = 23 ∧ o = b) → zgI w1 k j o = zgI w k j o := fun k j o h => by rw [hw1, zgI_sI, if_neg h]
  have A1 : ∀ k o i, zgA w1 k o i = zgA w k o i := fun k o i => by rw [hw1]; rfl
  have Q1 : ∀ k o i, zgQ w1 k o i = zgQ w k o i := fun k o i => by rw [hw1]; rfl
  have R1 : ∀ k o i, zgR w1 k o i = zgR w k o i := fun k o i => by rw [hw1]; rfl
  have hB1 : zRmB w1 b Ba := fun r hr => by
    have h := hB r hr
    have em : ∀ x k, mad w1 x k = mad w x k := fun x k => A1 178 0 _
    cases q : Ba r with
    | none => rw [q] at h; exact (A1 150 b r).trans h
    | some a =>
      rw [q] at h
      obtain ⟨x, h1, h2, h3, h4⟩ := h
      refine ⟨x, h1, (A1 150 b r).trans h2, (A1 151 b r).trans h3, ?_⟩
      unfold zAdw at h4 ⊢
      simp only [em]
      exact h4
  obtain ⟨w2, D, f1, f2, f3, f4⟩ := zm_leastSums (N := N) hB1 hBn hN
  -- the port on the net
  let pO : Nat → Nat → Option Nat := fun n i => match tpo T b n with | some p => if eU E n = true ∧ ti T p < i then some p else none | none => none
  have loop : ∀ (m n nn : Nat) (v : St), n + m = 24 → m < nn → (∀ k, k < n → zYx v b k (mWay T E tl b Ba D k)) → zY9 v D → zYq b w1 v → ∃ w', fX19_ways_20 N nn 0 b (Int32.ofNat n) v = some (0, w') ∧ (∀ k, k < 24 → zYx w' b k (mWay T E tl b Ba D k)) ∧ zYq b w1 w' := by
    intro m
    induction m with
    | zero =>
      intro n nn v hi hm hw hd hv
      obtain ⟨nn, rfl⟩ : ∃ k, nn = k + 1 := ⟨nn - 1, by omega⟩
      have hi : n = 24 := by omega
      subst hi
      refine ⟨v, ?_, hw, hv⟩
      show fX19_ways_20b N (fX19_ways_20 N nn) 0 b (Int32.ofNat 24) v = _
      unfold fX19_ways_20b
      rw [if_pos (by decide)]
    | succ m ih =>
      intro n nn v hi hm hw hd hv
      obtain ⟨nn, rfl⟩ : ∃ k, nn = k + 1 := ⟨nn - 1, by omega⟩
      have hn : n < 24 := by omega
      have go : ∀ v', zYx v' b n (mWay T E tl b Ba D n) → zYp b n v v' → ∃ w', fX19_ways_149 N (fX19_ways_20 N nn) 0 b (Int32.ofNat n) v' = some (0, w') ∧ (∀ k, k < 24 → zYx w' b k (mWay T E tl b Ba D k)) ∧ zYq b w1 w' := fun v' g1 g2 => by
        unfold fX19_ways_149
        rw [zo_i1, zl_e]
        refine ih (n + 1) nn v' (by omega) (by omega) (fun k hk => ?_) (fun x y hx hy => (g2.2.1 190 0 _ (by omega)).trans (hd x y hx hy)) (zYq_tr hv (zYq_p g2))
        by_cases c : k = n
        · rw [c]; exact g1
        · exact zYx_cg (g2.2.1 155 b k (fun y => c y.2.1)) (g2.2.1 156 b k (fun y => c y.2.1)) (g2.2.1 157 b k (fun y => c y.2.1)) (hw k (by omega))
      obtain ⟨v1, hv1⟩ : ∃ u, u = wST v b n (-1) (-1) (-1) := ⟨_, rfl⟩
      have P1 : zYp b n v v1 := by rw [hv1]; exact wST_p _ _ _ _ _ _
      have X1 : zYx v1 b n none := by rw [hv1]; exact wST_g v b n _ _ _
      have e0 : fX19_ways_20 N (nn + 1) 0 b (Int32.ofNat n) v = fX19_ways_52 N (fX19_ways_20 N nn) N 0 b (Int32.ofNat n) none (Int32.ofNat 0) v1 := by
        show fX19_ways_20b N (fX19_ways_20 N nn) 0 b (Int32.ofNat n) v = _
        unfold fX19_ways_20b
        rw [if_neg (by rw [show (24 : Int32) = Int32.ofNat 24 from rfl, zo_le (by omega) (by omega)]; omega), zkk hn (by omega), zoC (by omega), zl_e, zkk hn (by omega), zl_e, zkk hn (by omega), zl_e, hv1]
        rfl
      have hv1q : zYq b w1 v1 := zYq_tr hv (zYq_p P1)
      have I : ∀ k j o, ¬ (k = 12 ∧ j = 23 ∧ o = b) → zgI v1 k j o = zgI w k j o := fun k j o h => (hv1q.1 k j o).trans (I1 k j o h)
      have Q : ∀ k o i, zgQ v1 k o i = zgQ w k o i := fun k o i => (hv1q.2.2.2.1 k o i).trans (Q1 k o i)
      have R : ∀ k o i, zgR v1 k o i = zgR w k o i := fun k o i => (hv1q.2.2.2.2 k o i).trans (R1 k o i)
      have K0 : zgI v1 12 0 b = Int32.ofNat b := (I 12 0 b (by omega)).trans k0
      have K3 : zgI v1 12 3 b = Int32.ofNat (tp T b) := (I 12 3 b (by omega)).trans k3
      have ports : ∀ (m i n2 : Nat), i + m = tp T b → m < n2 → fX19_ways_52 N (fX19_ways_20 N nn) n2 0 b (Int32.ofNat n) (pO n i) (Int32.ofNat i) v1 = fX19_ways_52 N (fX19_ways_20 N nn) 1 0 b (Int32.ofNat n) (pO n (tp T b)) (Int32.ofNat (tp T b)) v1 := by
        intro m
        induction m with
        | zero =>
          intro i n2 hi2 hn2
          obtain ⟨n2, rfl⟩ : ∃ k, n2 = k + 1 := ⟨n2 - 1, by omega⟩
          have hi2 : i = tp T b := by omega
          subst hi2
          show fX19_ways_52b N (fX19_ways_20 N nn) (fX19_ways_52 N (fX19_ways_20 N nn) n2) 0 b (Int32.ofNat n) (pO n (tp T b)) (Int32.ofNat (tp T b)) v1 = fX19_ways_52b N (fX19_ways_20 N nn) (fX19_ways_52 N (fX19_ways_20 N nn) 0) 0 b (Int32.ofNat n) (pO n (tp T b)) (Int32.ofNat (tp T b)) v1
          unfold fX19_ways_52b
          rw [K3, if_pos (Int32.le_refl _), if_pos (Int32.le_refl _)]
        | succ m ihp =>
          intro i n2 hi2 hn2
          obtain ⟨n2, rfl⟩ : ∃ k, n2 = k + 1 := ⟨n2 - 1, by omega⟩
          have hip : i < tp T b := by omega
          have hv := tv_q hc hb hip
          obtain ⟨-, q2, -, -⟩ := hT.2.2.2 _ hv
          have q24 := tv_24 hc hv
          have e16 : zgI v1 16 0 (tq T b i / 8) = Int32.ofNat (tq T b i / 8) := (I 16 0 _ (by omega)).trans (hT.2.1.1 _ hv.1).2.1
          have qq : zgQ v1 147 b i = some (tq T b i) := (Q 147 b i).trans (kq i hip)
          have tii := (hc.2.2.2.2.2.2.1 b i hb hip).2.2
          have go2 := ihp (i + 1) n2 (by omega) (by omega)
          rw [← go2]
          show fX19_ways_52b N (fX19_ways_20 N nn) (fX19_ways_52 N (fX19_ways_20 N nn) n2) 0 b (Int32.ofNat n) (pO n i) (Int32.ofNat i) v1 = _
          unfold fX19_ways_52b fX19_ways_101 fX19_ways_102
          have q24b := (tv_24 hc hv)
          have n24 := hc.2.1
          rw [K3, if_neg (by rw [zo_le (by omega) (by omega)]; omega), zkk (show i < 6 by omega) (by omega), zoC (by omega), qq, zl_e, zd_e, R 18 2 _, q2, zl_e, zd_e, e16, zo_i1]
          by_cases c1 : tq T b i / 8 = n
          · have et : tpo T b n = some (tq T b i) := tpo_of hc hb hip c1
            rw [if_neg (fun y => y (by rw [c1])), zkk (show i < 6 by omega) (by omega), zl_e, zd_e, I 18 5 _ (by omega), hup i hip, c1]
            by_cases c2 : eU E n = true
            · rw [if_neg (by rw [c2]; decide), zkk (show i < 6 by omega) (by omega), zl_e, zl_e]
              have : pO n (i + 1) = some (tq T b i) := by
                show (match tpo T b n with | some p => if eU E n = true ∧ ti T p < i + 1 then some p else none | none => none) = _
                rw [et]
                exact if_pos ⟨c2, by rw [tii]; omega⟩
              rw [this]
            · have c2' : eU E n = false := by simpa using c2
              rw [if_pos (by rw [c2']; rfl), zl_e]
              have : ∀ j, pO n j = none := fun j => by
                show (match tpo T b n with | some p => if eU E n = true ∧ ti T p < j then some p else none | none => none) = _
                rw [et]
                exact if_neg (fun y => c2 y.1)
              rw [this, this]
          · rw [if_pos (fun y => c1 ((zo_eq (by omega) (by omega)).mp y)), zl_e]
            have : pO n (i + 1) = pO n i := by
              show (match tpo T b n with | some p => if eU E n = true ∧ ti T p < i + 1 then some p else none | none => none) = (match tpo T b n with | some p => if eU E n = true ∧ ti T p < i then some p else none | none => none)
              cases e : tpo T b n with
              | none => rfl
              | some p =>
                obtain ⟨p1, p2, p3, p4, p5⟩ := tpo_some hc hb e
                have : ti T p ≠ i := fun y => by rw [y] at p5; rw [p5] at c1; exact c1 p3
                show (if eU E n = true ∧ ti T p < i + 1 then some p else none) = (if eU E n = true ∧ ti T p < i then some p else none)
                by_cases c : eU E n = true ∧ ti T p < i
                · rw [if_pos c, if_pos ⟨c.1, by omega⟩]
                · rw [if_neg c, if_neg (fun y => c ⟨y.1, by omega⟩)]
            rw [this]
      have p0 : pO n 0 = none := by
        show (match tpo T b n with | some p => if eU E n = true ∧ ti T p < 0 then some p else none | none => none) = _
        cases tpo T b n with
        | none => rfl
        | some p => exact if_neg (fun y => absurd y.2 (Nat.not_lt_zero _))
      rw [e0, ← p0, ports (tp T b) 0 N (by omega) (by omega)]
      show ∃ w', fX19_ways_52b N (fX19_ways_20 N nn) (fX19_ways_52 N (fX19_ways_20 N nn) 0) 0 b (Int32.ofNat n) (pO n (tp T b)) (Int32.ofNat (tp T b)) v1 = some (0, w') ∧ _
      unfold fX19_ways_52b
      rw [K3, if_pos (Int32.le_refl _)]
      have far : mWay T E tl b Ba D n = wMod Ba D (fun t => pTl (bE Ba t) n) b → ∃ w', (zc (fX19_farWay N 0 b (Int32.ofNat n) v1) fun _ z5 => fX19_ways_149 N (fX19_ways_20 N nn) 0 b (Int32.ofNat n) z5) = some (0, w') ∧ (∀ k, k < 24 → zYx w' b k (mWay T E tl b Ba D k)) ∧ zYq b w1 w' := fun e => by
        obtain ⟨v2, g1, g2, g3⟩ := zm_farWay (w := v1) (n := n) (D := D) (q := fun t => pTl (bE Ba t) n) (N := N) (zYq_b hv1q hB1) hBn K0 b16 hn (fun x y hx hy => (P1.2.1 190 0 _ (by omega)).trans (hd x y hx hy)) f3 (fun _ => rfl) X1 (by omega)
        rw [g1, zc_e]
        exact go v2 (by rw [e]; exact g2) (zYp_tr P1 g3)
      cases e : tpo T b n with
      | none =>
        have : pO n (tp T b) = none := by
          show (match tpo T b n with | some p => if eU E n = true ∧ ti T p < tp T b then some p else none | none => none) = _
          rw [e]
        rw [this, zo_0]
        exact far (by unfold mWay rWay; rw [e])
      | some p =>
        obtain ⟨p1, p2, p3, p4, p5⟩ := tpo_some hc hb e
        by_cases c : eU E n = true
        · have : pO n (tp T b) = some p := by
            show (match tpo T b n with | some p => if eU E n = true ∧ ti T p < tp T b then some p else none | none => none) = _
            rw [e]
            exact if_pos ⟨c, p4⟩
          rw [this, zo_e, zkk hn (by omega), zoC (by omega), I 18 4 p (by omega), (hTl p p1).1, zl_e, zkk hn (by omega), zl_e, zkk hn (by omega), zl_e]
          have eI : zgI (zsA v1 155 b n (Int32.ofNat (tl p))) 12 0 b = Int32.ofNat b := K0
          rw [eI]
          refine go (wST v1 b n (Int32.ofNat (tl p)) (Int32.ofNat b) (Int32.ofNat n)) ?_ (zYp_tr P1 (wST_p _ _ _ _ _ _))
          unfold mWay rWay
          rw [e]
          show zYx _ b n (if eU E n = true then _ else _)
          rw [if_pos c]
          exact wST_g v1 b n _ _ _
        · have : pO n (tp T b) = none := by
            show (match tpo T b n with | some p => if eU E n = true ∧ ti T p < tp T b then some p else none | none => none) = _
            rw [e]
            exact if_neg (fun y => c y.1)
          rw [this, zo_0]
          refine far ?_
          unfold mWay rWay
          rw [e]
          exact if_neg c
  obtain ⟨w', g1, g2, g3⟩ := loop 24 0 N w2 (by omega) (by omega) (fun k hk => absurd hk (Nat.not_lt_zero _)) f2 (zYq_m f4)
  refine ⟨w', D, ?_, f3, g2, by rw [← hw1]; exact g3⟩
  unfold fX19_ways
  rw [h23, if_pos (by decide), zl_e, ← hw1, f1, zc_e]
  exact g1
