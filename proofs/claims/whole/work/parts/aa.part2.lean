/-! datagrams that are put together, the class: one is begun, a piece is added -/
theorem zgL_3 {z : St} {k o i j : Nat} {v : Int64} : zgL (zsL z k o i v) k o j = if j = i then v else zgL z k o j := by
  rw [zgL_sL]
  by_cases c : j = i
  · rw [if_pos ⟨rfl, rfl, c⟩, if_pos c]
  · rw [if_neg (fun y => c y.2.2), if_neg c]
/-- as it will be when it is whole -/
def dFull (D : Dg) : Dg := (fun j => if j = 5 then 0 else if j = 6 then D.1 7 else D.1 j, D.2)
theorem zc_beginPartial {z : St} {T : Tp} {b s x N : Nat} {D : Dg} {now : Int32} (hT : zTC z T) (hb : b < tb T) (hs : s < 4) (hxu : x ≠ 515 + 4 * b + s) (hx : ∀ j, j < 11 → j ≠ 8 → zgI z 7 j x = D.1 j) (hN : 3 < N) :
    ∃ z', fX1_beginPartial N b (Int32.ofNat s) x now z = some (0, z') ∧ (∀ j, j < 11 → j ≠ 8 → zgI z' 7 j (515 + 4 * b + s) = (dFull D).1 j) ∧ (∀ u, u < 192 → zbt z' 116 (b * 4 + s) u = false) ∧ zgA z' 117 b s = now ∧ zgI z' 1 9 b = zgI z 1 9 b + 1 ∧ zgA z' 118 b s = zgI z 1 9 b + 1 ∧ (∀ k j o, ¬ (k = 7 ∧ o = 515 + 4 * b + s) → ¬ (k = 1 ∧ j = 9 ∧ o = b) → zgI z' k j o = zgI z k j o) ∧ (∀ k o i, ¬ ((k = 117 ∨ k = 118) ∧ o = b ∧ i = s) → zgA z' k o i = zgA z k o i) ∧ (∀ k o i, ¬ (k = 116 ∧ o = b * 4 + s) → zgL z' k o i = zgL z k o i) ∧ (∀ k o i, zgQ z' k o i = zgQ z k o i) ∧ ∀ k o i, zgR z' k o i = zgR z k o i := by
  have q114 := (hT.2.1.2 b hb).2.2.2.2.2.2 s hs
  let u := 515 + 4 * b + s
  let za : St := zsI (zsI (zsI (zsI (zsI (zsI (zsI (zsI (zsI (zsI z 7 0 u (zgI z 7 0 x)) 7 1 u (zgI z 7 1 x)) 7 2 u (zgI z 7 2 x)) 7 3 u (zgI z 7 3 x)) 7 4 u (zgI z 7 4 x)) 7 9 u (zgI z 7 9 x)) 7 10 u (zgI z 7 10 x)) 7 7 u (zgI z 7 7 x)) 7 5 u (zgI z 7 5 x + 0)) 7 6 u 0
  have cp : fX7_copyPart N u x 0 0 z = some (0, za) := by
    unfold fX7_copyPart
    simp only [zl_e, zgI_sI, show ¬ x = u from hxu, and_false, if_false]
    rw [if_neg (by decide), if_pos (by decide)]
  let zb : St := zsI (zsI za 7 5 u 0) 7 6 u (zgI z 7 7 x)
  have w7 : zgI (zsI za 7 5 u 0) 7 7 x = zgI z 7 7 x := by
    show zgI (zsI (zsI (zsI (zsI (zsI (zsI (zsI (zsI (zsI (zsI (zsI z 7 0 u _) 7 1 u _) 7 2 u _) 7 3 u _) 7 4 u _) 7 9 u _) 7 10 u _) 7 7 u _) 7 5 u _) 7 6 u _) 7 5 u 0) 7 7 x = _
    simp only [zgI_sI, show ¬ x = u from hxu, and_false, if_false]
  let zc1 : St := zsL (zsL (zsL zb 116 (b * 4 + s) 0 0) 116 (b * 4 + s) 1 0) 116 (b * 4 + s) 2 0
  have e19 : zgI zb 1 9 b = zgI z 1 9 b := by
    show zgI (zsI (zsI (zsI (zsI (zsI (zsI (zsI (zsI (zsI (zsI (zsI (zsI z 7 0 u _) 7 1 u _) 7 2 u _) 7 3 u _) 7 4 u _) 7 9 u _) 7 10 u _) 7 7 u _) 7 5 u _) 7 6 u _) 7 5 u 0) 7 6 u _) 1 9 b = _
    simp only [zgI_sI, show ¬ (1 : Nat) = 7 by decide, false_and, if_false]
  let zd1 : St := zsA (zsI (zsA zc1 117 b s now) 1 9 b (zgI z 1 9 b + 1)) 118 b s (zgI z 1 9 b + 1)
  have run : fX1_beginPartial N b (Int32.ofNat s) x now z = some (0, zd1) := by
    unfold fX1_beginPartial
    rw [zkk hs (by omega), zl_e, zoC (by omega), q114, zd_e]
    show zc (fX7_copyPart N u x 0 0 z) _ = _
    rw [cp, zc_e, zl_e, w7, zl_e]
    obtain ⟨n, rfl⟩ : ∃ n, N = n + 4 := ⟨N - 4, by omega⟩
    have sL : ∀ (k i : Nat) (y : St), i < 3 → fX1_beginPartial_34 (n + 4) (k + 1) b (Int32.ofNat s) now (Int32.ofNat i) y = fX1_beginPartial_34 (n + 4) k b (Int32.ofNat s) now (Int32.ofNat (i + 1)) (zsL y 116 (b * 4 + s) i 0) := by
      intro k i y hi
      show fX1_beginPartial_34b (n + 4) (fX1_beginPartial_34 (n + 4) k) b (Int32.ofNat s) now (Int32.ofNat i) y = _
      unfold fX1_beginPartial_34b
      rw [if_neg (by rw [show (3 : Int32) = Int32.ofNat 3 from rfl, zo_le (by omega) (by omega)]; omega), zkk hs (by omega), zkk hi (by omega), zl_e, zl_e, zoC (by omega), zoC (by omega), zo_i1]
    show fX1_beginPartial_34 (n + 4) (n + 4) b (Int32.ofNat s) now (Int32.ofNat 0) zb = _
    rw [sL _ 0 _ (by omega), sL _ 1 _ (by omega), sL _ 2 _ (by omega)]
    show fX1_beginPartial_34b (n + 4) (fX1_beginPartial_34 (n + 4) n) b (Int32.ofNat s) now (Int32.ofNat 3) zc1 = _
    unfold fX1_beginPartial_34b
    have e19' : zgI (zsA zc1 117 b s now) 1 9 b = zgI z 1 9 b := e19
    have e19'' : ∀ v, zgI (zsI (zsA zc1 117 b s now) 1 9 b v) 1 9 b = v := fun v => by rw [zgI_sI, if_pos ⟨rfl, rfl, rfl⟩]
    rw [if_pos (by decide), zkk hs (by omega), zl_e, zoC (by omega), e19', zl_e, zkk hs (by omega), zl_e, e19'']
  have Id : ∀ k j o, zgI zd1 k j o = if k = 1 ∧ j = 9 ∧ o = b then zgI z 1 9 b + 1 else zgI zb k j o := fun k j o => by
    show zgI (zsA (zsI (zsA zc1 117 b s now) 1 9 b _) 118 b s _) k j o = _
    rw [zgI_sA, zgI_sI]; rfl
  refine ⟨zd1, run, fun j hj h8 => ?_, fun v hv => ?_, ?_, ?_, ?_, fun k j o h1 h2 => ?_, fun k o i h => ?_, fun k o i h => ?_, fun _ _ _ => rfl, fun _ _ _ => rfl⟩
  · rw [Id, if_neg (by omega)]
    show zgI (zsI (zsI (zsI (zsI (zsI (zsI (zsI (zsI (zsI (zsI (zsI (zsI z 7 0 u _) 7 1 u _) 7 2 u _) 7 3 u _) 7 4 u _) 7 9 u _) 7 10 u _) 7 7 u _) 7 5 u _) 7 6 u _) 7 5 u 0) 7 6 u _) 7 j u = _
    simp only [zgI_sI, and_true, true_and]
    have : j = 0 ∨ j = 1 ∨ j = 2 ∨ j = 3 ∨ j = 4 ∨ j = 5 ∨ j = 6 ∨ j = 7 ∨ j = 9 ∨ j = 10 := by omega
    rcases this with rfl | rfl | rfl | rfl | rfl | rfl | rfl | rfl | rfl | rfl
    · simp [dFull, hx 0 (by omega) (by omega)]
    · simp [dFull, hx 1 (by omega) (by omega)]
    · simp [dFull, hx 2 (by omega) (by omega)]
    · simp [dFull, hx 3 (by omega) (by omega)]
    · simp [dFull, hx 4 (by omega) (by omega)]
    · simp [dFull]
    · simp [dFull, hx 7 (by omega) (by omega)]
    · simp [dFull, hx 7 (by omega) (by omega)]
    · simp [dFull, hx 9 (by omega) (by omega)]
    · simp [dFull, hx 10 (by omega) (by omega)]
  · unfold zbt
    have e : zgL zd1 116 (b * 4 + s) (v / 64) = 0 := by
      show zgL (zsL (zsL (zsL zb 116 (b * 4 + s) 0 0) 116 (b * 4 + s) 1 0) 116 (b * 4 + s) 2 0) 116 (b * 4 + s) (v / 64) = 0
      rw [zgL_3, zgL_3, zgL_3]
      have : v / 64 = 0 ∨ v / 64 = 1 ∨ v / 64 = 2 := by omega
      rcases this with h | h | h
      · rw [h, if_neg (by decide), if_neg (by decide), if_pos rfl]
      · rw [h, if_neg (by decide), if_pos rfl]
      · rw [h, if_pos rfl]
    rw [e]
    show (0#64 : BitVec 64).getLsbD (v % 64) = false
    exact BitVec.getLsbD_zero
  · show zgA (zsA (zsI (zsA zc1 117 b s now) 1 9 b _) 118 b s _) 117 b s = _
    rw [zgA_sA, if_neg (by simp), zgA_sI, zgA_sA, if_pos ⟨rfl, rfl, rfl⟩]
  · rw [Id, if_pos ⟨rfl, rfl, rfl⟩]
  · show zgA (zsA (zsI (zsA zc1 117 b s now) 1 9 b _) 118 b s _) 118 b s = _
    rw [zgA_sA, if_pos ⟨rfl, rfl, rfl⟩]
  · rw [Id, if_neg h2]
    show zgI (zsI (zsI (zsI (zsI (zsI (zsI (zsI (zsI (zsI (zsI (zsI (zsI z 7 0 u _) 7 1 u _) 7 2 u _) 7 3 u _) 7 4 u _) 7 9 u _) 7 10 u _) 7 7 u _) 7 5 u _) 7 6 u _) 7 5 u 0) 7 6 u _) k j o = _
    have n : ∀ i, ¬ (k = 7 ∧ j = i ∧ o = u) := fun i y => h1 ⟨y.1, y.2.2⟩
    simp only [zgI_sI, n, if_false]
  · show zgA (zsA (zsI (zsA zc1 117 b s now) 1 9 b _) 118 b s _) k o i = _
    rw [zgA_sA, if_neg (fun y => h ⟨Or.inr y.1, y.2⟩), zgA_sI, zgA_sA, if_neg (fun y => h ⟨Or.inl y.1, y.2⟩)]
    rfl
  · show zgL (zsL (zsL (zsL zb 116 (b * 4 + s) 0 0) 116 (b * 4 + s) 1 0) 116 (b * 4 + s) 2 0) k o i = _
    rw [zgL_sL, if_neg (fun y => h ⟨y.1, y.2.1⟩), zgL_sL, if_neg (fun y => h ⟨y.1, y.2.1⟩), zgL_sL, if_neg (fun y => h ⟨y.1, y.2.1⟩)]
    rfl
theorem zdv8 : ∀ v, v < 1481 → ((Int32.ofNat v) / (8 : Int32)) = Int32.ofNat (v / 8) := by decide +kernel
theorem zdv64 : ∀ v, v < 192 → ((Int32.ofNat v) / (64 : Int32)) = Int32.ofNat (v / 64) ∧ (Int32.ofNat v) - Int32.ofNat (v / 64) * (64 : Int32) = Int32.ofNat (v % 64) := by decide +kernel
theorem zsh64 : ∀ t, t < 64 → (((Int32.ofNat t).toInt64.toUInt64 &&& Int64.toUInt64 63)).toBitVec % 64#64 = BitVec.ofNat 64 t := by decide +kernel
theorem zpw64 : ∀ t, t < 64 → zul ((1 : Int64) <<< (((Int32.ofNat t).toInt64) &&& 63)) = 2 ^ t := by decide +kernel
theorem zlg0 (x : Int64) : lg_cmp x 0 = 0 ↔ zul x = 0 := by
  unfold lg_cmp
  constructor
  · intro h
    by_cases c : x > 0
    · rw [if_pos c] at h; exact absurd h (by decide)
    · rw [if_neg c] at h
      by_cases c2 : x = 0
      · rw [c2]; rfl
      · rw [if_neg c2] at h; exact absurd h (by decide)
  · intro h
    have : x = 0 := Int64.toBitVec_inj.mp (BitVec.eq_of_toNat_eq h)
    rw [this]; decide
theorem zbt_n (z : St) (k i u : Nat) : zbt z k i u = (zul (zgL z k i (u / 64))).testBit (u % 64) := rfl
/-- whether an eight has come -/
theorem zc_bit {z : St} {i v : Nat} (hv : v < 192) : (lg_cmp (((((zgL z 116 i (v / 64))).toUInt64 >>> (((Int32.ofNat (v % 64))).toInt64.toUInt64 &&& Int64.toUInt64 63)).toInt64) &&& (1 : Int64)) (0 : Int64)) = 0 ↔ zbt z 116 i v = false := by
  rw [zlg0, zul_and, zul_shr (k := v % 64) (by omega) (zsh64 _ (by omega)), zbt_n, show zul 1 = 2 ^ 1 - 1 from rfl, Nat.and_two_pow_sub_one_eq_mod, Nat.testBit_eq_decide_div_mod_eq]
  constructor
  · intro h; rw [h]; rfl
  · intro h
    have : ¬ zul (zgL z 116 i (v / 64)) / 2 ^ (v % 64) % 2 = 1 := by simpa using h
    omega
theorem zc_setbit {z : St} {i v : Nat} (hv : v < 192) (u : Nat) : zbt (zsL z 116 i (v / 64) ((zgL z 116 i (v / 64)) ||| ((1 : Int64) <<< (((Int32.ofNat (v % 64))).toInt64 &&& 63)))) 116 i u = (zbt z 116 i u || decide (u = v)) := by
  rw [zbt_n, zbt_n, zgL_3]
  by_cases c : u / 64 = v / 64
  · rw [if_pos c, zul_or, zpw64 _ (by omega), Nat.testBit_or, Nat.testBit_two_pow, c]
    congr 1
    rw [decide_eq_decide]
    omega
  · rw [if_neg c]
    have : ¬ u = v := fun y => c (by rw [y])
    simp [this]
/-- the eights of a piece are laid in -/
theorem zc_addLoop {N b s x u B f : Nat} {D : Dg} (hs : s < 4) (hxu : x ≠ u) (hB : B ≤ 1480) (hfl : B = f + dl D) (hBw : B ≤ dw D) (hB8 : B % 8 = 0 ∨ B = dw D) :
    ∀ (m a n : Nat) (z : St) (V : Nat → Bool), (B - a + 7) / 8 = m → a % 8 = 0 → f ≤ a → a ≤ 1488 → m < n → zgI z 7 5 x = Int32.ofNat f → (∀ i, i < dl D → zgA z 125 x i = D.2 (f + i)) → (∀ v, v < 192 → zbt z 116 (b * 4 + s) v = V v) → (∀ i, i < dw D → V (i / 8) = true → zgA z 125 u i = D.2 i) →
    ∃ z', fX1_addPiece_41 N n b (Int32.ofNat s) x u (Int32.ofNat B) (Int32.ofNat a) z = fX1_addPiece_147 N N b (Int32.ofNat s) u 0 0 z' ∧ (∀ v, v < 192 → zbt z' 116 (b * 4 + s) v = (V v || (decide (a ≤ 8 * v) && decide (8 * v < B)))) ∧ (∀ i, i < dw D → (V (i / 8) || (decide (a ≤ 8 * (i / 8)) && decide (8 * (i / 8) < B))) = true → zgA z' 125 u i = D.2 i) ∧ (∀ k j o, zgI z' k j o = zgI z k j o) ∧ (∀ k o i, ¬ (k = 125 ∧ o = u) → zgA z' k o i = zgA z k o i) ∧ (∀ k o i, ¬ (k = 116 ∧ o = b * 4 + s) → zgL z' k o i = zgL z k o i) ∧ (∀ k o i, zgQ z' k o i = zgQ z k o i) ∧ ∀ k o i, zgR z' k o i = zgR z k o i := by
  intro m
  induction m with
  | zero =>
    intro a n z V hm ha hfa ha2 hn h5 hxb hbt hub
    obtain ⟨n, rfl⟩ : ∃ k, n = k + 1 := ⟨n - 1, by omega⟩
    have hno : ∀ v, (V v || (decide (a ≤ 8 * v) && decide (8 * v < B))) = V v := fun v => by
      have : (decide (a ≤ 8 * v) && decide (8 * v < B)) = false := by
        rw [Bool.and_eq_false_iff, decide_eq_false_iff_not, decide_eq_false_iff_not]; omega
      rw [this, Bool.or_false]
    refine ⟨z, ?_, fun v hv => ?_, fun i hi h => hub i hi ?_, fun _ _ _ => rfl, fun _ _ _ _ => rfl, fun _ _ _ _ => rfl, fun _ _ _ => rfl, fun _ _ _ => rfl⟩
    · show fX1_addPiece_41b N (fX1_addPiece_41 N n) b (Int32.ofNat s) x u (Int32.ofNat B) (Int32.ofNat a) z = _
      unfold fX1_addPiece_41b
      rw [if_pos (by rw [zo_le (by omega) (by omega)]; omega)]
    · rw [hbt v hv, hno]
    · rw [hno] at h; exact h
  | succ m ih =>
    intro a n z V hm ha hfa ha2 hn h5 hxb hbt hub
    obtain ⟨n, rfl⟩ : ∃ k, n = k + 1 := ⟨n - 1, by omega⟩
    have haB : a < B := by omega
    have hv : a / 8 < 192 := by omega
    have hnext : ∀ y, fX1_addPiece_135 N (fX1_addPiece_41 N n) b (Int32.ofNat s) x u (Int32.ofNat B) (Int32.ofNat a) y = fX1_addPiece_41 N n b (Int32.ofNat s) x u (Int32.ofNat B) (Int32.ofNat (a + 8)) y := fun y => by
      unfold fX1_addPiece_135
      rw [zl_e, show Int32.ofNat a + 8 = Int32.ofNat (a + 8) from zo_add a 8]
    have hnew : ∀ v, (V v || (decide (a ≤ 8 * v) && decide (8 * v < B))) = ((V v || decide (v = a / 8)) || (decide (a + 8 ≤ 8 * v) && decide (8 * v < B))) := fun v => by
      by_cases e : v = a / 8
      · have h1 : a ≤ 8 * v := by omega
        have h2 : 8 * v < B := by omega
        simp [e, h1, h2]
        rw [← e]; simp [h1, h2]
      · have h1 : a ≤ 8 * v ↔ a + 8 ≤ 8 * v := by omega
        simp only [e, h1, decide_false, Bool.or_false]
    have st : fX1_addPiece_41 N (n + 1) b (Int32.ofNat s) x u (Int32.ofNat B) (Int32.ofNat a) z = if zbt z 116 (b * 4 + s) (a / 8) = false then fX1_addPiece_41 N n b (Int32.ofNat s) x u (Int32.ofNat B) (Int32.ofNat (a + 8)) (zsC (zsL z 116 (b * 4 + s) (a / 8 / 64) ((zgL z 116 (b * 4 + s) (a / 8 / 64)) ||| ((1 : Int64) <<< (((Int32.ofNat (a / 8 % 64))).toInt64 &&& 63)))) 125 u (va_cpy (zgA z 125 x) (zgA z 125 u) (a - f) a (min (B - a) 8))) else fX1_addPiece_41 N n b (Int32.ofNat s) x u (Int32.ofNat B) (Int32.ofNat (a + 8)) z := by
      show fX1_addPiece_41b N (fX1_addPiece_41 N n) b (Int32.ofNat s) x u (Int32.ofNat B) (Int32.ofNat a) z = _
      obtain ⟨d1, d2⟩ := zdv64 (a / 8) hv
      unfold fX1_addPiece_41b
      rw [if_neg (by rw [zo_le (by omega) (by omega)]; omega), zdv8 a (by omega), zl_e, d1, d2, zkk hs (by omega), zkk (by omega) (by omega), zoC (by omega), zoC (by omega)]
      by_cases c : zbt z 116 (b * 4 + s) (a / 8) = false
      · have hmn : (if Int32.ofNat B - Int32.ofNat a < (8 : Int32) then Int32.ofNat B - Int32.ofNat a else (8 : Int32)) = Int32.ofNat (min (B - a) 8) := by
          rw [zo_sub (by omega)]
          by_cases c8 : B - a < 8
          · rw [if_pos (by rw [show (8 : Int32) = Int32.ofNat 8 from rfl, zo_lt (by omega) (by omega)]; exact c8), Nat.min_eq_left (by omega)]
          · rw [if_neg (by rw [show (8 : Int32) = Int32.ofNat 8 from rfl, zo_lt (by omega) (by omega)]; exact c8), Nat.min_eq_right (by omega)]; rfl
        rw [if_pos ((zc_bit hv).mpr c), zkk hs (by omega), zkk (by omega) (by omega), zkk (by omega) (by omega), zl_e, hmn]
        have z95 : ∀ v, zgI (zsL z 116 (b * 4 + s) (a / 8 / 64) v) 7 5 x = Int32.ofNat f := fun v => h5
        rw [z95, zo_sub hfa, zq_e ⟨zo_nn (by omega), zo_nn (by omega), zo_nn (by omega), by rw [zoC (by omega), zoC (by omega)]; omega, by rw [zoC (by omega), zoC (by omega)]; omega⟩, zl_e, hnext, if_pos c]
        unfold zcp
        rw [zoC (by omega), zoC (by omega), zoC (by omega)]
        rfl
      · rw [if_neg (fun y => c ((zc_bit hv).mp y)), hnext, if_neg c]
    rw [st]
    by_cases c : zbt z 116 (b * 4 + s) (a / 8) = false
    · rw [if_pos c]
      obtain ⟨z', r1, r2, r3, r4, r5, r6, r7, r8⟩ := ih (a + 8) n (zsC (zsL z 116 (b * 4 + s) (a / 8 / 64) ((zgL z 116 (b * 4 + s) (a / 8 / 64)) ||| ((1 : Int64) <<< (((Int32.ofNat (a / 8 % 64))).toInt64 &&& 63)))) 125 u (va_cpy (zgA z 125 x) (zgA z 125 u) (a - f) a (min (B - a) 8))) (fun v => V v || decide (v = a / 8)) (by omega) (by omega) (by omega) (by omega) (by omega) h5 (fun i hi => by
        rw [zgA_sC, if_neg (fun y => hxu y.2)]; exact hxb i hi) (fun v hv' => by
        show zbt (zsL z 116 (b * 4 + s) (a / 8 / 64) _) 116 (b * 4 + s) v = _
        rw [zc_setbit hv, hbt v hv']) (fun i hi hV => by
        rw [zgA_sCs]
        unfold va_cpy
        by_cases ci : a ≤ i ∧ i < a + min (B - a) 8
        · have hm : min (B - a) 8 ≤ B - a := Nat.min_le_left _ _
          rw [if_pos ci, hxb _ (by omega), show f + (a - f + (i - a)) = i by omega]
        · rw [if_neg ci]
          by_cases ce : i / 8 = a / 8
          · exfalso
            rcases Nat.le_total (B - a) 8 with h8 | h8
            · rw [Nat.min_eq_left h8] at ci
              rcases hB8 with hB8 | hB8
              · omega
              · omega
            · rw [Nat.min_eq_right h8] at ci; omega
          · have : V (i / 8) = true := by simpa [ce] using hV
            exact hub i hi this)
      refine ⟨z', r1, fun v hv' => by rw [r2 v hv', hnew], fun i hi h => r3 i hi (by rw [← hnew]; exact h), r4, fun k o i h => ?_, fun k o i h => ?_, r7, r8⟩
      · rw [r5 k o i h, zgA_sC, if_neg h]; rfl
      · rw [r6 k o i h]
        show zgL (zsL z 116 (b * 4 + s) (a / 8 / 64) _) k o i = _
        rw [zgL_sL, if_neg (fun y => h ⟨y.1, y.2.1⟩)]
    · rw [if_neg c]
      have ct : V (a / 8) = true := by
        rw [hbt _ hv] at c; simpa using c
      have hV : ∀ v, V v = (V v || decide (v = a / 8)) := fun v => by
        by_cases e : v = a / 8
        · rw [e, ct]; rfl
        · simp [e]
      obtain ⟨z', r1, r2, r3, r4, r5, r6, r7, r8⟩ := ih (a + 8) n z V (by omega) (by omega) (by omega) (by omega) (by omega) h5 hxb hbt hub
      exact ⟨z', r1, fun v hv' => by rw [r2 v hv', hnew, ← hV], fun i hi h => r3 i hi (by rw [hnew, ← hV] at h; exact h), r4, r5, r6, r7, r8⟩
/-- whether all has come -/
def zAll (V : Nat → Bool) (w : Nat) : Bool := (List.range 192).all (fun v => (! decide (8 * v < w)) || V v)
theorem zAll_iff {V : Nat → Bool} {w : Nat} (hw : w ≤ 1480) : zAll V w = true ↔ ∀ v, 8 * v < w → V v = true := by
  unfold zAll
  rw [List.all_eq_true]
  constructor
  · intro h v hv
    have := h v (List.mem_range.mpr (by omega))
    simpa [hv] using this
  · intro h v _
    by_cases c : 8 * v < w
    · simp [c, h v c]
    · simp [c]
theorem zc_addCount {z : St} {b s u N w : Nat} {V : Nat → Bool} (hs : s < 4) (hbt : ∀ v, v < 192 → zbt z 116 (b * 4 + s) v = V v) (hV : ∀ v, V v = true → 8 * v < w) (hw : w ≤ 1480) (h7 : zgI z 7 7 u = Int32.ofNat w) (hN : 3 < N) : fX1_addPiece_147 N N b (Int32.ofNat s) u 0 0 z = some (zbi (zAll V w), z) := by
  have hcnt : ∀ k, k < 3 → zcnt (fun j => (zgL z 116 (b * 4 + s) k).toBitVec.getLsbD j) 64 = zcnt (fun j => V (64 * k + j)) 64 := fun k hk => zcnt_cg (fun j hj => by
    rw [← hbt _ (by omega)]
    unfold zbt
    rw [show (64 * k + j) / 64 = k by omega, show (64 * k + j) % 64 = j by omega])
  have sum : zcnt V 192 = zcnt (fun j => V (64 * 0 + j)) 64 + zcnt (fun j => V (64 * 1 + j)) 64 + zcnt (fun j => V (64 * 2 + j)) 64 := by
    have a1 := zcnt_add V 64 64
    have a2 := zcnt_add V 128 64
    have e : zcnt (fun j => V (64 * 0 + j)) 64 = zcnt V 64 := zcnt_cg (fun j _ => by rw [Nat.mul_zero, Nat.zero_add])
    simp only [Nat.reduceAdd, Nat.reduceMul] at a1 a2 e ⊢
    omega
  obtain ⟨n, rfl⟩ : ∃ n, N = n + 4 := ⟨N - 4, by omega⟩
  have l0 := zcnt_le (fun j => V (64 * 0 + j)) 64
  have l1 := zcnt_le (fun j => V (64 * 1 + j)) 64
  have l2 := zcnt_le (fun j => V (64 * 2 + j)) 64
  have st : ∀ (k i c : Nat), i < 3 → fX1_addPiece_147 (n + 4) (k + 1) b (Int32.ofNat s) u (Int32.ofNat c) (Int32.ofNat i) z = fX1_addPiece_147 (n + 4) k b (Int32.ofNat s) u (Int32.ofNat (c + zcnt (fun j => V (64 * i + j)) 64)) (Int32.ofNat (i + 1)) z := by
    intro k i c hi
    show fX1_addPiece_147b (n + 4) (fX1_addPiece_147 (n + 4) k) b (Int32.ofNat s) u (Int32.ofNat c) (Int32.ofNat i) z = _
    unfold fX1_addPiece_147b
    rw [if_neg (by rw [show (3 : Int32) = Int32.ofNat 3 from rfl, zo_le (by omega) (by omega)]; omega), zkk hs (by omega), zkk hi (by omega), zoC (by omega), zoC (by omega), zc_bitCount, zc_e, zl_e, zl_e, zo_add, zo_i1, hcnt i hi]
  show fX1_addPiece_147 (n + 4) (n + 4) b (Int32.ofNat s) u (Int32.ofNat 0) (Int32.ofNat 0) z = _
  rw [st _ 0 _ (by omega), st _ 1 _ (by omega), st _ 2 _ (by omega)]
  show fX1_addPiece_147b (n + 4) (fX1_addPiece_147 (n + 4) n) b (Int32.ofNat s) u (Int32.ofNat (0 + zcnt (fun j => V (64 * 0 + j)) 64 + zcnt (fun j => V (64 * 1 + j)) 64 + zcnt (fun j => V (64 * 2 + j)) 64)) (Int32.ofNat 3) z = _
  unfold fX1_addPiece_147b
  rw [if_pos (by decide), h7, Nat.zero_add, ← sum]
  have m8 : Int32.ofNat (zcnt V 192) * (8 : Int32) = Int32.ofNat (zcnt V 192 * 8) := (Int32.ofNat_mul _ _).symm
  have hw8 := zcnt_whole hV hw
  have lt : zcnt V 192 ≤ 192 := zcnt_le V 192
  rw [m8]
  cases c : zAll V w with
  | true => rw [if_neg (by rw [zo_lt (by omega) (by omega), hw8]; exact fun y => y ((zAll_iff hw).mp c))]; rfl
  | false => rw [if_pos (by rw [zo_lt (by omega) (by omega), hw8]; exact fun y => (by rw [(zAll_iff hw).mpr y] at c; cases c))]; rfl
