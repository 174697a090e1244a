/-! the model makes a segment: toldBy -/
def tdX (w : St) (e : Nat) (num : Int32) (i : Nat) : Nat := zun ((num + Int32.ofNat i) - (zgI w 14 5 e + 1)) % 2048
theorem zm_toldL {e s m N : Nat} {num : Int32} (hs : s < 2400) (hm : m ≤ 1460) : ∀ (n i nn : Nat) (w : St), i + n = m → n < nn → ∃ w', fX19_toldBy_68 N nn 0 e num (Int32.ofNat m) (Int32.ofNat s) (Int32.ofNat i) w = some (Int32.ofNat s, zsI w' 14 32 e (if zgI w 14 17 e = 0 then (if zgI w 14 32 e = 0 then 0 else 1) else 0)) ∧ (∀ j, i ≤ j → j < m → sby w' s j = be (zgA w 159 e (tdX w e num j))) ∧ (∀ j, j < i → sby w' s j = sby w s j) ∧ (∀ k o u, ¬ (k = 175 ∧ o = 0 ∧ 183 * s ≤ u ∧ u < 183 * s + 183) → zgL w' k o u = zgL w k o u) ∧ (∀ k j o, zgI w' k j o = zgI w k j o) ∧ (∀ k o u, zgA w' k o u = zgA w k o u) ∧ (∀ k o u, zgQ w' k o u = zgQ w k o u) ∧ ∀ k o u, zgR w' k o u = zgR w k o u := by
  intro n
  induction n with
  | zero =>
    intro i nn w h1 h2
    obtain ⟨nn, rfl⟩ : ∃ k, nn = k + 1 := ⟨nn - 1, by omega⟩
    have e1 : i = m := by omega
    subst e1
    refine ⟨w, ?_, fun j a b => absurd b (by omega), fun _ _ => rfl, fun _ _ _ _ => rfl, fun _ _ _ => rfl, fun _ _ _ => rfl, fun _ _ _ => rfl, fun _ _ _ => rfl⟩
    show fX19_toldBy_68b N _ 0 e num _ _ _ w = _
    unfold fX19_toldBy_68b fX19_toldBy_128
    rw [if_pos (Int32.le_refl _)]
    by_cases c : zgI w 14 32 e = 0
    · rw [if_pos c, zl_e, if_pos c]
      by_cases d : zgI w 14 17 e = 0
      · rw [if_pos d]
      · rw [if_neg d]
    · rw [if_neg c, if_neg c]
      by_cases d : zgI w 14 17 e = 0
      · rw [if_neg (fun y => y d), if_pos d, zl_e]
      · rw [if_pos d, if_neg d, zl_e]
  | succ n ih =>
    intro i nn w h1 h2
    obtain ⟨nn, rfl⟩ : ∃ k, nn = k + 1 := ⟨nn - 1, by omega⟩
    obtain ⟨w1, r1, r2, r3, r4, r5, r6, r7, r8⟩ := zm_setByte (w := w) (s := s) (i := i) (N := N) (v := zgA w 159 e (tdX w e num i)) hs (by omega)
    obtain ⟨w', g1, g2', g3, g4', g5, g6, g7, g8⟩ := ih (i + 1) nn w1 (by omega) (by omega)
    have ex : ∀ j, tdX w1 e num j = tdX w e num j := fun j => by unfold tdX; rw [r5]
    refine ⟨w', ?_, fun j a b => ?_, fun j a => ?_, fun k o u q => ?_, fun k j o => (g5 k j o).trans (r5 k j o), fun k o u => (g6 k o u).trans (r6 k o u), fun k o u => (g7 k o u).trans (r7 k o u), fun k o u => (g8 k o u).trans (r8 k o u)⟩
    · show fX19_toldBy_68b N _ 0 e num _ _ _ w = _
      unfold fX19_toldBy_68b
      have lt : tdX w e num i < 2048 := Nat.mod_lt _ (by decide)
      have ix : ((num + Int32.ofNat i) - (zgI w 14 5 e + 1)) &&& (2047 : Int32) = Int32.ofNat (tdX w e num i) := zand_o _
      rw [if_neg (by rw [zo_le (by omega) (by omega)]; omega), ix, zkk lt (by omega), zoC (by omega), r1, zc_e, zo_i1, zl_e]
      rw [r5 14 17 e, r5 14 32 e] at g1
      exact g1
    · by_cases c : j = i
      · rw [c, g3 i (by omega)]; exact r2
      · rw [g2' j (by omega) b, r6, ex]
    · rw [g3 j (by omega), r3 j (by omega)]
    · rw [g4' k o u q, r4 k o u (fun y => q ⟨y.1, y.2.1, by omega, by omega⟩)]
theorem zm_toldBy {w : St} {T : Tp} {E : Ev} {K : Int32 → Int32 → Int32 → Prop} {g : Sg} {X TS TA TB : List Nat} {e m R N : Nat} (fl num : Int32) (h : zMV w T E g K X TS TA TB) (hX : X.length ≤ 40) (hW : ∀ q, tv T q → (gW g q).length ≤ 16) (hTS : TS.length ≤ 100) (hl : TS.length + 1 + TA.length + TB.length ≤ 5000) (hm : m ≤ 1460) (hR : R ≤ 2048) (hrm : ∀ u, (∀ j, zgI u 14 j e = zgI w 14 j e) → fX14_room N e u = some (Int32.ofNat (2048 - R), u)) (hN : 1500 < N) :
    ∃ w' s, fX19_toldBy N 0 e fl num (Int32.ofNat m) w = some (Int32.ofNat s, w') ∧ s ∉ TS ∧ zMV w' T E g K X (s :: TS) TA TB ∧ zgA w' 176 0 s = 1 ∧ zSgM w' s (if zgI w 14 17 e = 0 then fl else fl ||| 8, num, if zgI w 14 17 e = 0 then 0 else zgI w 14 16 e, Int32.ofNat (2048 - R), 0, m, fun i => be (zgA w 159 e (tdX w e num i))) ∧ msg w' s 8 = -1 ∧ (∀ d D, d ∈ X → zMD w T K d D → zMD w' T K d D) ∧ (∀ k j o, ¬ (k = 19 ∧ j = 7) → zgI w' k j o = if k = 14 ∧ j = 32 ∧ o = e then (if zgI w 14 17 e = 0 then (if zgI w 14 32 e = 0 then 0 else 1) else 0) else zgI w k j o) ∧ (∀ k o i, ¬ (k = 174 ∨ k = 176) → zgA w' k o i = zgA w k o i) ∧ zBs w w' ∧ (∀ k o u, ¬ k = 175 → zgL w' k o u = zgL w k o u) := by
  obtain ⟨F, hF⟩ : ∃ u : Int32, u = if zgI w 14 17 e = 0 then fl else fl ||| 8 := ⟨_, rfl⟩
  obtain ⟨Th, hTh⟩ : ∃ u : Int32, u = if zgI w 14 17 e = 0 then 0 else zgI w 14 16 e := ⟨_, rfl⟩
  obtain ⟨w1, s, a1, a2, a3', a3, a5, a6, a7, a8, a9, a10, a11, a12, a13⟩ := zm_newSg (N := N) F num h hX hW hTS hl (by omega)
  have i17 : zgI w1 14 17 e = zgI w 14 17 e := a8 14 17 e (by omega)
  have i16 : zgI w1 14 16 e = zgI w 14 16 e := a8 14 16 e (by omega)
  -- the rows
  obtain ⟨w2, hw2⟩ : ∃ u, u = zsA (zsA (zsA w1 174 0 (10 * s + 4) Th) 174 0 (10 * s + 5) (Int32.ofNat (2048 - R))) 174 0 (10 * s + 7) (Int32.ofNat m) := ⟨_, rfl⟩
  have A2 : ∀ k o i, ¬ (k = 174 ∧ o = 0 ∧ 10 * s ≤ i ∧ i < 10 * s + 10) → zgA w2 k o i = zgA w1 k o i := fun k o i q => by rw [hw2, zgA_sA, zgA_sA, zgA_sA, if_neg (by omega), if_neg (by omega), if_neg (by omega)]
  have I2 : ∀ k j o, zgI w2 k j o = zgI w1 k j o := fun k j o => by rw [hw2]; rfl
  have M2 : ∀ k, k < 10 → msg w2 s k = if k = 7 then Int32.ofNat m else if k = 5 then Int32.ofNat (2048 - R) else if k = 4 then Th else sgv F num k := fun k hk => by
    unfold msg
    rw [hw2, zgA_sA, zgA_sA, zgA_sA]
    by_cases c7 : k = 7
    · rw [if_pos ⟨rfl, rfl, by omega⟩, if_pos c7]
    · rw [if_neg (by omega), if_neg c7]
      by_cases c5 : k = 5
      · rw [if_pos ⟨rfl, rfl, by omega⟩, if_pos c5]
      · rw [if_neg (by omega), if_neg c5]
        by_cases c4 : k = 4
        · rw [if_pos ⟨rfl, rfl, by omega⟩, if_pos c4]
        · rw [if_neg (by omega), if_neg c4]; exact a6 k hk
  obtain ⟨w3, b1, b2, b3, b4, b5, b6, b7, b8⟩ := zm_toldL (e := e) (N := N) (num := num) a2 hm m 0 N w2 (by omega) (by omega)
  have v17 : zgI w2 14 17 e = zgI w 14 17 e := (I2 14 17 e).trans i17
  have v32 : zgI w2 14 32 e = zgI w 14 32 e := (I2 14 32 e).trans (a8 14 32 e (by omega))
  rw [v17, v32] at b1
  obtain ⟨v, hv⟩ : ∃ u : Int32, u = if zgI w 14 17 e = 0 then (if zgI w 14 32 e = 0 then 0 else 1) else 0 := ⟨_, rfl⟩
  rw [← hv] at b1
  have run41 : ∀ T0 : Int32, T0 = Th → fX19_toldBy_41 N 0 e num (Int32.ofNat m) (Int32.ofNat s) 0 (Int32.ofNat s) 4 T0 w1 = some (Int32.ofNat s, zsI w3 14 32 e v) := fun T0 hT0 => by
    unfold fX19_toldBy_41
    have s4 : ∀ u x, fX19_setSeg N 0 (Int32.ofNat s) 4 x u = some (0, zsA u 174 0 (10 * s + 4) x) := fun u x => zm_setSg (k := 4) a2 (by omega)
    have s5 : ∀ u x, fX19_setSeg N 0 (Int32.ofNat s) 5 x u = some (0, zsA u 174 0 (10 * s + 5) x) := fun u x => zm_setSg (k := 5) a2 (by omega)
    have s7 : ∀ u x, fX19_setSeg N 0 (Int32.ofNat s) 7 x u = some (0, zsA u 174 0 (10 * s + 7) x) := fun u x => zm_setSg (k := 7) a2 (by omega)
    rw [hT0, s4, zc_e, hrm (zsA w1 174 0 (10 * s + 4) Th) (fun j => a8 14 j e (by omega)), zc_e, s5, zc_e, s7, zc_e, ← hw2]
    exact b1
  have run16 : fX19_toldBy_16 N 0 e num (Int32.ofNat m) 0 F w = some (Int32.ofNat s, zsI w3 14 32 e v) := by
    unfold fX19_toldBy_16
    rw [a1, zc_e, i17]
    by_cases c : zgI w 14 17 e = 0
    · rw [if_pos c]; rw [if_pos c] at hTh; exact run41 0 hTh.symm
    · rw [if_neg c, i16]; rw [if_neg c] at hTh; exact run41 _ hTh.symm
  have run : fX19_toldBy N 0 e fl num (Int32.ofNat m) w = some (Int32.ofNat s, zsI w3 14 32 e v) := by
    unfold fX19_toldBy
    by_cases c : zgI w 14 17 e = 0
    · rw [if_pos c]; rw [if_pos c] at hF; rw [← hF]; exact run16
    · rw [if_neg c]; rw [if_neg c] at hF; rw [← hF]; exact run16
  have m8 : msg w3 s 8 = -1 := by
    have : msg w3 s 8 = msg w2 s 8 := b6 174 0 _
    rw [this, M2 8 (by omega)]; rfl
  obtain ⟨p1, p2, p3⟩ := zm_rowSg (w' := w3) a3 a5 a2 (fun k o i q => (b6 k o i).trans (A2 k o i q)) (by rw [m8, a6 8 (by omega)]; rfl) (fun k j o => (b5 k j o).trans (I2 k j o)) (fun k o i q => (b4 k o i q).trans (by rw [hw2]; rfl)) (fun k o i => (b7 k o i).trans (by rw [hw2]; rfl)) (fun k o i => (b8 k o i).trans (by rw [hw2]; rfl))
  have em : zEm1 e w3 (zsI w3 14 32 e v) := zEm1_I
  refine ⟨_, s, run, a3', zMV_em p1 em, ?_, ?_, m8, fun d D hd hD => zMD_bf (zBf_em em) (p2 d D hd (a7 d D hd hD)), fun k j o q => ?_, fun k o i q => ?_, zBs_tr a13 (zBs_tr p3 (zBs_bf (zBf_em em))), fun k o u q => ((b4 k o u (fun y => q y.1)).trans (by rw [hw2]; rfl)).trans (a10 k o u)⟩
  · show zgA w3 176 0 s = 1
    rw [b6, A2 176 0 s (by omega)]; exact a5
  · refine zSgM_em em ⟨a2, ⟨?_, ?_, ?_, ?_, ?_, ?_⟩, hm, fun i hi => ?_⟩
    · have : msg w3 s 2 = msg w2 s 2 := b6 174 0 _
      rw [this, M2 2 (by omega), ← hF]; rfl
    · have : msg w3 s 3 = msg w2 s 3 := b6 174 0 _
      rw [this, M2 3 (by omega)]; rfl
    · have : msg w3 s 4 = msg w2 s 4 := b6 174 0 _
      rw [this, M2 4 (by omega), ← hTh]; rfl
    · have : msg w3 s 5 = msg w2 s 5 := b6 174 0 _
      rw [this, M2 5 (by omega)]; rfl
    · have : msg w3 s 6 = msg w2 s 6 := b6 174 0 _
      rw [this, M2 6 (by omega)]; rfl
    · have : msg w3 s 7 = msg w2 s 7 := b6 174 0 _
      rw [this, M2 7 (by omega)]; rfl
    · rw [b2 i (by omega) hi]
      have x1 : tdX w2 e num i = tdX w e num i := by unfold tdX; rw [I2, a8 14 5 e (by omega)]
      rw [x1, A2 159 e _ (by omega), a9 159 e _ (by omega) (by omega)]; rfl
  · rw [zgI_sI, b5, I2, a8 k j o q]
    rw [hv]
  · show zgA w3 k o i = _
    rw [b6, A2 k o i (by omega), a9 k o i (by omega) (by omega)]
