/-! tools: numbers, indices, loops, masks -/
theorem zoI {k : Nat} (h : k < 2147483648) : (Int32.ofNat k).toInt = k := Int32.toInt_ofNat_of_lt h
theorem zoC {k : Nat} (h : k < 2147483648) : (Int32.ofNat k).toNatClampNeg = k := Int32.toNatClampNeg_ofNat_of_lt h
theorem zo_le {a b : Nat} (ha : a < 2147483648) (hb : b < 2147483648) : Int32.ofNat a ≤ Int32.ofNat b ↔ a ≤ b := by
  rw [Int32.le_iff_toInt_le, zoI ha, zoI hb]; omega
theorem zo_lt {a b : Nat} (ha : a < 2147483648) (hb : b < 2147483648) : Int32.ofNat a < Int32.ofNat b ↔ a < b := by
  rw [Int32.lt_iff_toInt_lt, zoI ha, zoI hb]; omega
theorem zo_eq {a b : Nat} (ha : a < 2147483648) (hb : b < 2147483648) : Int32.ofNat a = Int32.ofNat b ↔ a = b := by
  constructor
  · intro h
    have := congrArg Int32.toInt h
    rw [zoI ha, zoI hb] at this
    omega
  · intro h; rw [h]
theorem zo_add (a b : Nat) : Int32.ofNat a + Int32.ofNat b = Int32.ofNat (a + b) := (Int32.ofNat_add a b).symm
theorem zo_sub {a b : Nat} (h : b ≤ a) : Int32.ofNat a - Int32.ofNat b = Int32.ofNat (a - b) := by
  have e : Int32.ofNat a = Int32.ofNat (a - b) + Int32.ofNat b := by rw [zo_add]; congr 1; omega
  rw [e, Int32.add_sub_cancel]
theorem zo_i1 (a : Nat) : Int32.ofNat a + (1 : Int32) = Int32.ofNat (a + 1) := zo_add a 1
theorem zo_s1 {a : Nat} (h : 0 < a) : Int32.ofNat a - (1 : Int32) = Int32.ofNat (a - 1) := zo_sub (b := 1) h
theorem zo_nn {a : Nat} (h : a < 2147483648) : ¬ Int32.ofNat a < 0 := fun c => by
  have c := Int32.lt_iff_toInt_lt.mp c
  rw [zoI h] at c
  have a0 : (0 : Int32).toInt = 0 := rfl
  omega
theorem zo_ge {a : Nat} (h : a < 2147483648) : (0 : Int32) ≤ Int32.ofNat a := Int32.not_lt.mp (zo_nn h)
theorem zkk {i n : Nat} (h : i < n) (hn : n < 2147483648) {β : Type} (k : Option β) : zk (Int32.ofNat i) n k = k := by
  unfold zk
  rw [if_neg]
  rw [zoC (by omega)]
  intro c
  rcases c with c | c
  · exact zo_nn (by omega) c
  · omega
/-- an index: either a small natural number, or none -/
theorem zo_cs (x : Int32) : x < 0 ∨ ∃ i, i < 2147483648 ∧ x = Int32.ofNat i := by
  by_cases c : x < 0
  · exact Or.inl c
  have g0 := Int32.le_iff_toInt_le.mp (Int32.not_lt.mp c)
  have a0 : (0 : Int32).toInt = 0 := rfl
  have h1 : x.toInt < 2147483648 := x.toInt_lt
  refine Or.inr ⟨x.toInt.toNat, by omega, ?_⟩
  apply Int32.toInt_inj.mp
  rw [zoI (by omega)]
  omega
theorem zlp {β : Type} {G : Nat → Nat → β} {r : β} {k : Nat} (hs : ∀ n i, i < k → G (n + 1) i = G n (i + 1)) (he : ∀ n, G (n + 1) k = r) : ∀ (m i n : Nat), i + m = k → m < n → G n i = r := by
  intro m
  induction m with
  | zero =>
    intro i n hi hn
    obtain ⟨n, rfl⟩ : ∃ n', n = n' + 1 := ⟨n - 1, by omega⟩
    rw [Nat.add_zero] at hi
    subst hi
    exact he n
  | succ m ih =>
    intro i n hi hn
    obtain ⟨n, rfl⟩ : ∃ n', n = n' + 1 := ⟨n - 1, by omega⟩
    rw [hs n i (by omega)]
    exact ih (i + 1) n (by omega) (by omega)
theorem zlp0 {β : Type} {G : Nat → Nat → β} {r : β} {k n : Nat} (hn : k < n) (hs : ∀ n i, i < k → G (n + 1) i = G n (i + 1)) (he : ∀ n, G (n + 1) k = r) : G n 0 = r := zlp hs he k 0 n (by omega) hn
theorem ztf {m M c : Nat} (h : m &&& M = 0) (hc : m.testBit c = true) : M.testBit c = false := by
  have := congrArg (fun x => x.testBit c) h
  simp only [Nat.testBit_and, hc, Bool.true_and, Nat.zero_testBit] at this
  exact this
theorem zl_e {α β : Type} (e : α) (k : α → Option β) : zl e k = k e := rfl
theorem zd_e {α β : Type} (a : α) (k : α → Option β) : zd (some a) k = k a := rfl
theorem zo_e {α β : Type} (a : α) (x : Option β) (k : α → Option β) : zo (some a) x k = k a := rfl
theorem zo_0 {α β : Type} (x : Option β) (k : α → Option β) : zo none x k = x := rfl
theorem zc_e {α β : Type} (a : α) (z : St) (k : α → St → Option β) : zc (some (a, z)) k = k a z := rfl
/-- the first place of a row at which something holds, from a place on -/
def zfst (p : Nat → Bool) : Nat → Nat → Option Nat
  | 0, _ => none
  | k + 1, i => if p i = true then some i else zfst p k (i + 1)
theorem zfst_some {p : Nat → Bool} : ∀ {k i j : Nat}, zfst p k i = some j → i ≤ j ∧ j < i + k ∧ p j = true ∧ ∀ t, i ≤ t → t < j → p t = false := by
  intro k
  induction k with
  | zero => intro i j h; cases h
  | succ k ih =>
    intro i j h
    unfold zfst at h
    by_cases c : p i = true
    · rw [if_pos c] at h; cases h
      exact ⟨by omega, by omega, c, fun t h1 h2 => by omega⟩
    · rw [if_neg c] at h
      obtain ⟨a, b, d, e⟩ := ih h
      refine ⟨by omega, by omega, d, fun t h1 h2 => ?_⟩
      by_cases ht : t = i
      · subst ht; exact Bool.eq_false_iff.mpr c
      · exact e t (by omega) h2
theorem zfst_none {p : Nat → Bool} : ∀ {k i : Nat}, zfst p k i = none → ∀ t, i ≤ t → t < i + k → p t = false := by
  intro k
  induction k with
  | zero => intro i _ t h1 h2; omega
  | succ k ih =>
    intro i h t h1 h2
    unfold zfst at h
    by_cases c : p i = true
    · rw [if_pos c] at h; cases h
    · rw [if_neg c] at h
      by_cases ht : t = i
      · subst ht; exact Bool.eq_false_iff.mpr c
      · exact ih h t (by omega) (by omega)
/-- a loop that looks for the first place of a row: what it tells where it finds one, and what else -/
theorem zlf {β : Type} {G : Nat → Nat → β} {p : Nat → Bool} {f : Nat → β} {r : β} {k : Nat} (hs : ∀ n i, i < k → p i = false → G (n + 1) i = G n (i + 1)) (hf : ∀ n i, i < k → p i = true → G (n + 1) i = f i) (he : ∀ n, G (n + 1) k = r) : ∀ (m i n : Nat), i + m = k → m < n → G n i = (match zfst p m i with | some j => f j | none => r) := by
  intro m
  induction m with
  | zero =>
    intro i n hi hn
    obtain ⟨n, rfl⟩ : ∃ n', n = n' + 1 := ⟨n - 1, by omega⟩
    rw [Nat.add_zero] at hi
    subst hi
    exact he n
  | succ m ih =>
    intro i n hi hn
    obtain ⟨n, rfl⟩ : ∃ n', n = n' + 1 := ⟨n - 1, by omega⟩
    unfold zfst
    by_cases c : p i = true
    · rw [if_pos c, hf n i (by omega) c]
    · rw [if_neg c, hs n i (by omega) (Bool.eq_false_iff.mpr c)]
      exact ih (i + 1) n (by omega) (by omega)
theorem zlf0 {β : Type} {G : Nat → Nat → β} {p : Nat → Bool} {f : Nat → β} {r : β} {k n : Nat} (hn : k < n) (hs : ∀ n i, i < k → p i = false → G (n + 1) i = G n (i + 1)) (hf : ∀ n i, i < k → p i = true → G (n + 1) i = f i) (he : ∀ n, G (n + 1) k = r) : G n 0 = (match zfst p k 0 with | some j => f j | none => r) := zlf hs hf he k 0 n (by omega) hn
