/-! ways: the class writes the ways to all nets down -/
def zYw (z : St) (b n : Nat) (w : Wy) : Prop := match w with
  | none => zgA z 106 b n = -1 ∧ zgA z 107 b n = -1 ∧ zgA z 108 b n = -1
  | some (c, x, m) => zgA z 106 b n = Int32.ofNat c ∧ zgA z 107 b n = Int32.ofNat x ∧ zgA z 108 b n = Int32.ofNat m
/-- only the way to net n changes -/
def zYn (b n : Nat) (z z' : St) : Prop := (∀ k j o, zgI z' k j o = zgI z k j o) ∧ (∀ k o i, ¬ (o = b ∧ i = n ∧ (k = 106 ∨ k = 107 ∨ k = 108)) → zgA z' k o i = zgA z k o i) ∧ (∀ k o i, zgL z' k o i = zgL z k o i) ∧ (∀ k o i, zgQ z' k o i = zgQ z k o i) ∧ ∀ k o i, zgR z' k o i = zgR z k o i
theorem zYn_b {b n : Nat} {z z' : St} {Ba : Nat → Option Ad} (f : zYn b n z z') (h : zRCb z b Ba) : zRCb z' b Ba := zRCb_cg (fun k i hk => f.2.1 k b i (by omega)) (fun o i _ _ => f.2.1 104 o i (by omega)) h
theorem zYn_d {b n : Nat} {z z' : St} {re : Nat → Bool} {s : Dh} (f : zYn b n z z') (h : zYd z b re s) : zYd z' b re s := fun t ht => by
  rw [f.2.1 109 b t (by omega), f.2.1 110 b t (by omega), f.2.1 111 b t (by omega)]; exact h t ht
theorem zYn_w {b n m : Nat} {z z' : St} {w : Wy} (f : zYn b n z z') (hm : m ≠ n) (h : zYw z b m w) : zYw z' b m w := by
  unfold zYw at h ⊢
  rw [f.2.1 106 b m (fun y => hm y.2.1), f.2.1 107 b m (fun y => hm y.2.1), f.2.1 108 b m (fun y => hm y.2.1)]; exact h
theorem zc_setWay {z : St} {b n N : Nat} {c x y : Int32} (hn : n < 24) : ∃ z', fX0_setWay N b (Int32.ofNat n) c x y z = some (0, z') ∧ (zgA z' 106 b n = c ∧ zgA z' 107 b n = x ∧ zgA z' 108 b n = y) ∧ zYn b n z z' := by
  let z' : St := zsA (zsA (zsA z 106 b n c) 107 b n x) 108 b n y
  have A : ∀ k o i, zgA z' k o i = if k = 108 ∧ o = b ∧ i = n then y else if k = 107 ∧ o = b ∧ i = n then x else if k = 106 ∧ o = b ∧ i = n then c else zgA z k o i := fun k o i => by
    show zgA (zsA (zsA (zsA z 106 b n c) 107 b n x) 108 b n y) k o i = _
    rw [zgA_sA, zgA_sA, zgA_sA]
  refine ⟨z', ?_, ⟨?_, ?_, ?_⟩, fun _ _ _ => rfl, fun k o i h => ?_, fun _ _ _ => rfl, fun _ _ _ => rfl, fun _ _ _ => rfl⟩
  · unfold fX0_setWay
    rw [zkk hn (by omega), zoC (by omega), zl_e, zkk hn (by omega), zl_e, zkk hn (by omega), zl_e]
  · rw [A, if_neg (by omega), if_neg (by omega), if_pos ⟨rfl, rfl, rfl⟩]
  · rw [A, if_neg (by omega), if_pos ⟨rfl, rfl, rfl⟩]
  · rw [A, if_pos ⟨rfl, rfl, rfl⟩]
  · rw [A, if_neg (by omega), if_neg (by omega), if_neg (by omega)]
theorem zdm16 : ∀ v, v < 400 → (Int32.ofNat v) - (Int32.ofNat v) / (16 : Int32) * (16 : Int32) = Int32.ofNat (v % 16) ∧ (Int32.ofNat v) / (16 : Int32) = Int32.ofNat (v / 16) := by decide +kernel
theorem zc_findFarWay {z : St} {b n N : Nat} {Ba : Nat → Option Ad} {re : Nat → Bool} {s : Dh} (hB : zRCb z b Ba) (hBn : zBn Ba) (hn : n < 24) (hd : ∀ t, s.1 t = FARn ∨ s.1 t ≤ 16000) (hH : zHb s) (hW : zYd z b re s) (hN : 24 < N) : ∃ z', fX0_findFarWay N b (Int32.ofNat n) z = some (0, z') ∧ zYw z' b n (wFar s.1 s.2 (fun t => pTl (bE Ba t) n)) ∧ zYn b n z z' := by
  have F9 : FARn = 1000000000 := rfl
  obtain ⟨q, hq⟩ : ∃ q : Nat → Nat, q = fun t => pTl (bE Ba t) n := ⟨_, rfl⟩
  have hq1 : ∀ t, q t ≤ 1000 := fun t => by rw [hq]; exact pTl_le (hBn t) n
  have hqt : ∀ t, t < 16 → fX0_portToll N b (Int32.ofNat t) (Int32.ofNat n) z = some (Int32.ofNat (q t), z) := fun t ht => by rw [hq]; exact zc_portToll hB hBn ht hn hN
  rw [← hq]
  have b1 : ∀ k, (cFar s.1 s.2 q k).1 ≤ FARn := fun k => (cFar_all hd hq1 k).1
  have b2 : ∀ k, (cFar s.1 s.2 q k).2 ≤ 400 := fun k => by
    rcases (cFar_all (h := s.2) hd hq1 k).2.2.1 with y | ⟨t, -, -, -, -, y⟩
    · rw [y]; exact Nat.zero_le _
    · rw [y]; exact (hH t).2
  have loop : ∀ (m k nn : Nat), k + m = 16 → m < nn → ∃ z', fX0_findFarWay_8 N nn b (Int32.ofNat n) (Int32.ofNat (cFar s.1 s.2 q k).1) (Int32.ofNat (cFar s.1 s.2 q k).2 - 1) (Int32.ofNat k) z = some (0, z') ∧ zYw z' b n (wFar s.1 s.2 q) ∧ zYn b n z z' := by
    intro m
    induction m with
    | zero =>
      intro k nn hi hm
      obtain ⟨nn, rfl⟩ : ∃ k, nn = k + 1 := ⟨nn - 1, by omega⟩
      have hi : k = 16 := by omega
      subst hi
      have h1 := b1 16
      have h2 := b2 16
      show ∃ z', fX0_findFarWay_8b N (fX0_findFarWay_8 N nn) b (Int32.ofNat n) (Int32.ofNat (cFar s.1 s.2 q 16).1) (Int32.ofNat (cFar s.1 s.2 q 16).2 - 1) (Int32.ofNat 16) z = some (0, z') ∧ _
      unfold fX0_findFarWay_8b wFar
      rw [if_pos (show (16 : Int32) ≤ Int32.ofNat 16 from by decide)]
      generalize cFar s.1 s.2 q 16 = p at *
      by_cases c : p.2 = 0
      · obtain ⟨z', f1, f2, f3⟩ := zc_setWay (z := z) (b := b) (n := n) (N := N) (c := -1) (x := -1) (y := -1) hn
        rw [if_neg (show ¬ (0 : Int32) ≤ Int32.ofNat p.2 - 1 from by rw [Int32.not_le]; exact (zom_0 (by omega)).mpr c), f1, zc_e, if_pos c]
        exact ⟨z', rfl, f2, f3⟩
      · obtain ⟨z', f1, f2, f3⟩ := zc_setWay (z := z) (b := b) (n := n) (N := N) (c := Int32.ofNat p.1) (x := Int32.ofNat ((p.2 - 1) % 16)) (y := Int32.ofNat ((p.2 - 1) / 16)) hn
        obtain ⟨g1, g2⟩ := zdm16 (p.2 - 1) (by omega)
        rw [if_pos (show (0 : Int32) ≤ Int32.ofNat p.2 - 1 from by rw [zo_s1 (by omega)]; exact zo_ge (by omega)), zo_s1 (by omega), g1, g2, f1, zc_e, if_neg c]
        exact ⟨z', rfl, f2, f3⟩
    | succ m ih =>
      intro k nn hi hm
      obtain ⟨nn, rfl⟩ : ∃ k, nn = k + 1 := ⟨nn - 1, by omega⟩
      have k16 : k < 16 := by omega
      have go := ih (k + 1) nn (by omega) (by omega)
      have h1 := b1 k
      have h2 := b2 k
      obtain ⟨y1, y2, y3⟩ := hW k k16
      have hk1 := (hH k).1
      have hk2 := (hH k).2
      have hqk := hq1 k
      have g108 : ∀ (x2 x3 : Int32), x2 = Int32.ofNat (cFar s.1 s.2 q (k + 1)).1 → x3 = Int32.ofNat (cFar s.1 s.2 q (k + 1)).2 - 1 → ∃ z', fX0_findFarWay_108 N (fX0_findFarWay_8 N nn) b (Int32.ofNat n) x2 x3 (Int32.ofNat k) z = some (0, z') ∧ zYw z' b n (wFar s.1 s.2 q) ∧ zYn b n z z' := fun x2 x3 e1 e2 => by
        unfold fX0_findFarWay_108
        rw [zo_i1, zl_e, e1, e2]; exact go
      have ec : cFar s.1 s.2 q (k + 1) = if s.1 k = FARn ∨ q k = 0 then cFar s.1 s.2 q k else if s.1 k + q k ≤ (cFar s.1 s.2 q k).1 then (s.1 k + q k, if (cFar s.1 s.2 q k).1 ≤ s.1 k + q k then (if s.2 k < (cFar s.1 s.2 q k).2 then s.2 k else (cFar s.1 s.2 q k).2) else s.2 k) else cFar s.1 s.2 q k := rfl
      show ∃ z', fX0_findFarWay_8b N (fX0_findFarWay_8 N nn) b (Int32.ofNat n) (Int32.ofNat (cFar s.1 s.2 q k).1) (Int32.ofNat (cFar s.1 s.2 q k).2 - 1) (Int32.ofNat k) z = some (0, z') ∧ _
      unfold fX0_findFarWay_8b
      rw [if_neg (by rw [show (16 : Int32) = Int32.ofNat 16 from rfl, zo_le (by omega) (by omega)]; omega), zkk k16 (by omega), zoC (by omega), y1]
      by_cases k1 : s.1 k = FARn
      · rw [if_neg (fun y => y (by rw [k1]; rfl))]
        exact g108 _ _ (by rw [ec, if_pos (Or.inl k1)]) (by rw [ec, if_pos (Or.inl k1)])
      · have kd : s.1 k ≤ 16000 := (hd k).resolve_left k1
        rw [if_pos (show ¬ Int32.ofNat (s.1 k) = (1000000000 : Int32) from fun y => k1 ((zo_eq (a := s.1 k) (b := 1000000000) (by omega) (by omega)).mp y)), hqt k k16, zc_e]
        by_cases k2 : q k = 0
        · rw [if_pos (show Int32.ofNat (q k) = 0 from by rw [k2]; rfl)]
          exact g108 _ _ (by rw [ec, if_pos (Or.inr k2)]) (by rw [ec, if_pos (Or.inr k2)])
        · rw [if_neg (show ¬ Int32.ofNat (q k) = 0 from fun y => k2 ((zo_eq (a := q k) (b := 0) (by omega) (by omega)).mp y)), zkk k16 (by omega), y1, zo_add]
          rw [if_neg (show ¬ (s.1 k = FARn ∨ q k = 0) from fun y => y.elim k1 k2)] at ec
          by_cases k3 : s.1 k + q k ≤ (cFar s.1 s.2 q k).1
          · rw [if_pos k3] at ec
            rw [if_pos ((zo_le (by omega) (by omega)).mpr k3), zkk k16 (by omega)]
            have g96 : ∀ (x3 : Int32), x3 = Int32.ofNat (cFar s.1 s.2 q (k + 1)).2 - 1 → ∃ z', fX0_findFarWay_96 N (fX0_findFarWay_8 N nn) b (Int32.ofNat n) (Int32.ofNat k) (Int32.ofNat (q k)) x3 z = some (0, z') ∧ zYw z' b n (wFar s.1 s.2 q) ∧ zYn b n z z' := fun x3 e2 => by
              unfold fX0_findFarWay_96
              rw [zkk k16 (by omega), zoC (by omega), y1, zo_add, zl_e]
              exact g108 _ _ (by rw [ec]) e2
            by_cases k4 : (cFar s.1 s.2 q k).1 ≤ s.1 k + q k
            · rw [if_pos k4] at ec
              rw [if_pos ((zo_le (by omega) (by omega)).mpr k4), zkk k16 (by omega), y3]
              by_cases k5 : s.2 k < (cFar s.1 s.2 q k).2
              · rw [if_pos k5] at ec
                rw [if_pos ((zom_lt (by omega) (by omega)).mpr k5)]
                exact g96 _ (by rw [ec])
              · rw [if_neg k5] at ec
                rw [if_neg (fun y => k5 ((zom_lt (by omega) (by omega)).mp y))]
                exact g96 _ (by rw [ec])
            · rw [if_neg k4] at ec
              rw [if_neg (fun y => k4 ((zo_le (by omega) (by omega)).mp y)), zkk k16 (by omega), y3]
              exact g96 _ (by rw [ec])
          · rw [if_neg k3] at ec
            rw [if_neg (fun y => k3 ((zo_le (by omega) (by omega)).mp y))]
            exact g108 _ _ (by rw [ec]) (by rw [ec])
  unfold fX0_findFarWay
  exact loop 16 0 N rfl (by omega)
/-- a router's way to a net -/
def rWay (T : Tp) (E : Ev) (tl : Nat → Nat) (b : Nat) (far : Nat → Wy) (n : Nat) : Wy := match tpo T b n with
  | some p => if eU E n = true then some (tl p, b, n) else far n
  | none => far n
def cWay (T : Tp) (E : Ev) (tl : Nat → Nat) (b : Nat) (Ba : Nat → Option Ad) (n : Nat) : Wy := rWay T E tl b (fun n => wFar (dij Ba b 16 (dij0 b)).2.1 (dij Ba b 16 (dij0 b)).2.2 (fun t => pTl (bE Ba t) n)) n
