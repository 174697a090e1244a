/-! what is safe: the history of all ends that were made -/
/-- an end's record: its host, own port number, peer, peer's port number; its first number; when it was made; whether it asked -/
abbrev Mk : Type := (Nat × Int32 × Int32 × Int32) × Int32 × Nat × Bool
def kB (m : Mk) : Nat := m.1.1
def kO (m : Mk) : Int32 := m.1.2.1
def kX (m : Mk) : Int32 := m.1.2.2.1
def kQ (m : Mk) : Int32 := m.1.2.2.2
def kF (m : Mk) : Int32 := m.2.1
def kT (m : Mk) : Nat := m.2.2.1
def kP (m : Mk) : Bool := m.2.2.2
/-- how many were made, when it was sent last; records; bytes written; who was answered; partners; bytes got; who got the LAST; who closed; who is dead; who began again; books -/
abbrev Gh : Type := (Nat × Nat) × (Nat → Mk) × (Nat → Nat) × (Nat → Bool) × (Nat → Nat) × (Nat → Nat) × (Nat → Bool) × (Nat → Bool) × (Nat → Bool) × (Nat → Bool) × (Nat → Nat × Int32) × (Nat → Nat)
def qhN (G : Gh) : Nat := G.1.1
def qhU (G : Gh) : Nat := G.1.2
def qhM (G : Gh) : Nat → Mk := G.2.1
def qhW (G : Gh) : Nat → Nat := G.2.2.1
def qhE (G : Gh) : Nat → Bool := G.2.2.2.1
def qhP (G : Gh) : Nat → Nat := G.2.2.2.2.1
def qhR (G : Gh) : Nat → Nat := G.2.2.2.2.2.1
def qhV (G : Gh) : Nat → Bool := G.2.2.2.2.2.2.1
def qhC (G : Gh) : Nat → Bool := G.2.2.2.2.2.2.2.1
def qhD (G : Gh) : Nat → Bool := G.2.2.2.2.2.2.2.2.1
def qhA (G : Gh) : Nat → Bool := G.2.2.2.2.2.2.2.2.2.1
def qhB (G : Gh) : Nat → Nat × Int32 := G.2.2.2.2.2.2.2.2.2.2.1
/-- how many port numbers of its own a host has given -/
def qhO (G : Gh) : Nat → Nat := G.2.2.2.2.2.2.2.2.2.2.2
/-- numbers got: bytes and the LAST -/
def qhT (G : Gh) (m : Nat) : Nat := qhR G m + (if qhV G m = true then 1 else 0)
/-- what is thanked for is what was got -/
def zTh (G : Gh) (m : Nat) (t : Int32) : Prop := 1 ≤ qhP G m ∧ ∃ i, t = kF (qhM G (qhP G m)) + 1 + Int32.ofNat i ∧ i ≤ qhT G m
/-- flags, number, thanks, how many bytes of a segment of maker m -/
def zSv (G : Gh) (m : Nat) (f n t : Int32) (k : Nat) : Prop :=
  ((f = 4 ∨ f = 12) ∧ k = 0 ∧ (kP (qhM G m) = true → qhD G m = true ∨ ¬ n = kF (qhM G m) + 1)) ∨
  (f = 1 ∧ k = 0 ∧ n = kF (qhM G m) ∧ kP (qhM G m) = true) ∨
  (f = 9 ∧ zTh G m t ∧ k = 0 ∧ n = kF (qhM G m)) ∨
  ((f = 8 ∨ f = 10) ∧ zTh G m t ∧ ∃ j, n = kF (qhM G m) + 1 + Int32.ofNat j ∧ j + k ≤ qhW G m + 1 ∧ (¬ k = 0 → qhE G m = true ∧ j + k ≤ qhW G m) ∧ (f = 10 → qhE G m = true ∧ (qhA G m = false → qhC G m = true ∧ j + k = qhW G m)))
/-- a segment in a datagram: nobody's reset, or a maker's -/
def zSP (T : Tp) (G : Gh) (D : Dg) : Prop := ∃ b, b < tb T ∧ tr T b = false ∧ 0 < tp T b ∧ D.1 0 = zad (tq T b 0) ∧
  ((D.1 9 = 0 ∧ (g2 D.2 12 = 4 ∨ g2 D.2 12 = 12) ∧ dw D = 20 ∧ ((g2 D.2 2).toNatClampNeg < 50000 → ((50000 ≤ (g2 D.2 0).toNatClampNeg → (g2 D.2 0).toNatClampNeg < 50000 + qhO G b) ∧ ∀ m, 1 ≤ m → m ≤ qhN G → kP (qhM G m) = true → kB (qhM G m) = b → kO (qhM G m) = g2 D.2 0 → kX (qhM G m) = D.1 1 → kQ (qhM G m) = g2 D.2 2 → qhD G m = true))) ∨
   (∃ m, 1 ≤ m ∧ m ≤ qhN G ∧ D.1 9 = Int32.ofNat m ∧ kB (qhM G m) = b ∧ kO (qhM G m) = g2 D.2 0 ∧ kQ (qhM G m) = g2 D.2 2 ∧ kX (qhM G m) = D.1 1 ∧ kT (qhM G m) ≤ qhU G ∧ zSv G m (g2 D.2 12) (g4 D.2 4) (g4 D.2 8) (dw D - 20)))
/-- an OPEN that asks is not older than its lives and its asker tell -/
def zAg (G : Gh) (D : Dg) (t : Nat) : Prop := g2 D.2 12 = 1 → ∃ m l, D.1 9 = Int32.ofNat m ∧ 1 ≤ m ∧ m ≤ qhN G ∧ D.1 4 = Int32.ofNat l ∧ l ≤ 64 ∧ t + 400 * l ≤ kT (qhM G m) + 11000 + 25600
/-- the same of frames, of what waits, of what is handed -/
def qF (T : Tp) (G : Gh) (f : Fr) : Prop := f.2.1 2 = 1 → zSP T G f.2 ∧ zAg G f.2 (f.1 - 400)
def qW (T : Tp) (E : Ev) (G : Gh) (fsh : Nat → Bool) (q a : Nat) (D : Dg) : Prop := (D.1 2 = 5 → eN E + (if fsh q = true then 1 else 0) ≤ a + 200) ∧ (D.1 2 = 1 → zSP T G D ∧ zAg G D a)
def qD (T : Tp) (E : Ev) (G : Gh) (q : Nat) (to : Int32) (D : Dg) : Prop := D.1 2 = 1 → zSP T G D ∧ zAg G D (eN E)
/-- pure history -/
def zJG (T : Tp) (nw : Nat) (G : Gh) : Prop :=
  (qhU G ≤ nw ∧ ∀ m, 1 ≤ m → m ≤ qhN G → (kF (qhM G m) = (64000 : Int32) * Int32.ofNat (kT (qhM G m)) + (977 : Int32) * Int32.ofNat (kB (qhM G m)) ∧ kT (qhM G m) ≤ nw ∧ kB (qhM G m) < tb T ∧ tr T (kB (qhM G m)) = false ∧ 0 < tp T (kB (qhM G m)) ∧ qhW G m ≤ 1050000) ∧ (∃ a, kO (qhM G m) = Int32.ofNat a ∧ ((kP (qhM G m) = true ∧ 50000 ≤ a ∧ a < 50000 + qhO G (kB (qhM G m))) ∨ (kP (qhM G m) = false ∧ a < 50000))) ∧ (∃ p, p ≤ 65535 ∧ kQ (qhM G m) = Int32.ofNat p)) ∧
  (∀ b, qhO G b ≤ 15536) ∧
  (∀ m m', 1 ≤ m → m ≤ qhN G → 1 ≤ m' → m' ≤ qhN G → kP (qhM G m) = true → kP (qhM G m') = true → kB (qhM G m) = kB (qhM G m') → kO (qhM G m) = kO (qhM G m') → m = m') ∧
  (∀ m, 1 ≤ m → m ≤ qhN G → qhP G m ≠ 0 → qhP G m ≤ qhN G ∧ kX (qhM G m) = zad (tq T (kB (qhM G (qhP G m))) 0) ∧ kQ (qhM G m) = kO (qhM G (qhP G m)) ∧ (kX (qhM G (qhP G m)) = zad (tq T (kB (qhM G m)) 0) ∨ kX (qhM G (qhP G m)) = 0) ∧ kQ (qhM G (qhP G m)) = kO (qhM G m)) ∧
  (∀ m, 1 ≤ m → m ≤ qhN G → kP (qhM G m) = false → 1 ≤ qhP G m ∧ kP (qhM G (qhP G m)) = true ∧ kT (qhM G m) ≤ kT (qhM G (qhP G m)) + 60000 ∧ (qhD G m = true → kT (qhM G m) ≤ qhU G)) ∧
  (∀ m m', 1 ≤ m → m ≤ qhN G → 1 ≤ m' → m' ≤ qhN G → kP (qhM G m) = false → kP (qhM G m') = false → qhP G m = qhP G m' → kT (qhM G m) ≤ kT (qhM G m') → m = m' ∨ (kT (qhM G m) < kT (qhM G m') ∧ qhD G m = true ∧ (qhE G m = true → qhA G m = false → qhW G m ≤ 2048 * (kT (qhM G m') - kT (qhM G m))))) ∧
  (∀ m, 1 ≤ m → m ≤ qhN G → qhE G m = true → 1 ≤ qhP G m ∧ qhP G (qhP G m) = m ∧ (qhA G (qhP G m) = false → qhR G m ≤ qhW G (qhP G m) ∧ (1 ≤ qhT G m → qhE G (qhP G m) = true) ∧ (qhE G (qhP G m) = true → qhW G (qhP G m) ≤ qhR G m + 2048) ∧ (qhV G m = true → qhC G (qhP G m) = true ∧ qhW G (qhP G m) = qhR G m))) ∧
  (∀ m, 1 ≤ m → m ≤ qhN G → qhE G m = false → qhT G m = 0 ∧ qhC G m = false) ∧
  (∀ m, 1 ≤ m → m ≤ qhN G → qhA G m = true → 1 ≤ qhP G m ∧ qhT G (qhP G m) = 0 ∧ (qhD G (qhP G m) = true ∨ kX (qhM G (qhP G m)) = 0)) ∧
  (∀ m, 1 ≤ m → m ≤ qhN G → kP (qhM G m) = true → qhP G m ≠ 0 → kT (qhM G (qhP G m)) ≤ qhU G)
/-- an end's state is one of those behind ANSWERING -/
def stE (s : Int32) : Prop := ¬ (s = 0 ∨ s = 1 ∨ s = 2 ∨ s = 3 ∨ s = 11)
/-- door e has an end of maker m; tk: within a tick, before the host's turn; n: how many writings -/
def zJe (z w : St) (nw : Nat) (tk : Bool) (n : Nat) (G : Gh) (e m : Nat) : Prop :=
  (1 ≤ m ∧ m ≤ qhN G ∧ zgI z 3 14 e = Int32.ofNat m ∧ kB (qhM G m) = e / 6 ∧ kO (qhM G m) = zgI z 2 1 e ∧ kX (qhM G m) = zgI z 2 2 e ∧ kQ (qhM G m) = zgI z 2 3 e ∧ kF (qhM G m) = zgI z 6 4 e ∧ (kP (qhM G m) = true ↔ zgI z 3 3 e = 0)) ∧
  (qhD G m = stD (zgI z 3 0 e) ∧ (stE (zgI z 3 0 e) → qhE G m = true) ∧ ((zgI z 3 0 e = 1 ∨ zgI z 3 0 e = 2 ∨ zgI z 3 0 e = 3) → qhE G m = false) ∧ (zgI z 3 0 e = 1 → kP (qhM G m) = false) ∧ (zgI z 3 0 e = 2 → kP (qhM G m) = true ∧ qhP G m = 0)) ∧
  ((zgI w 14 17 e = 1 → 1 ≤ qhP G m ∧ zgI z 3 15 e = Int32.ofNat (qhP G m)) ∧ (qhE G m = true → zgI w 14 17 e = 1) ∧ (zgI z 3 0 e = 3 ∨ qhE G m = true → zgI z 4 4 e = kF (qhM G (qhP G m)) + 1 + Int32.ofNat (qhT G m))) ∧
  ((∃ W2, zgI w 14 8 e = kF (qhM G m) + 1 + Int32.ofNat W2 ∧ W2 ≤ qhW G m ∧ (qhA G m = false → W2 = qhW G m)) ∧ (qhE G m = true → (¬ zgI z 6 8 e = 0 ↔ qhC G m = true) ∧ (zgI z 4 7 e = 1 ↔ qhV G m = true))) ∧
  (∃ Rn st, zgI z 4 3 e = Int32.ofNat Rn ∧ zgI z 4 2 e = Int32.ofNat st ∧ ((qhE G m = true ∧ Rn ≤ qhR G m ∧ zPl z w n e (qhR G m - Rn) ∧ (zgI z 4 7 e = 0 → ∀ k, k < 2048 → ¬ zgA z 121 e ((st + Rn + k) % 2048) = 0 → qhE G (qhP G m) = true ∧ qhR G m + k < qhW G (qhP G m)) ∧ (zgI z 4 7 e = 0 → zgI z 4 5 e = 1 → qhC G (qhP G m) = true ∧ zgI z 4 6 e = kF (qhM G (qhP G m)) + 1 + Int32.ofNat (qhW G (qhP G m)))) ∨ (qhE G m = false ∧ Rn = 0 ∧ zgI z 2 10 e = 0 ∧ zgI z 2 11 e = 0))) ∧
  (qhE G m = true → ∃ o, zgI z 6 5 e = kF (qhM G m) + Int32.ofNat o ∧ o ≤ 1 + qhT G (qhP G m) ∧ o ≤ qhW G m + 2) ∧
  (¬ zgI z 3 5 e = 0 → (zgI z 3 6 e = 4 ∨ zgI z 3 6 e = 12) ∧ (kP (qhM G m) = true → stD (zgI z 3 0 e) = true ∨ ¬ zgI z 3 7 e = kF (qhM G m) + 1)) ∧
  (zgI z 3 0 e = 2 → (zgI z 10 0 e = 0 ∧ zgI z 10 1 e = 0 ∧ ¬ zgI z 3 9 e = 0 ∧ nw ≤ kT (qhM G m) + (if tk = true then 1 else 0)) ∨ (¬ zgI z 10 0 e = 0 ∧ ∃ a i, zgI z 10 0 e = Int32.ofNat a ∧ zgI z 10 1 e = Int32.ofNat i ∧ i ≤ 8 ∧ a ≤ kT (qhM G m) + 1 + 1200 * (i + 1) ∧ nw + (if tk = true then 0 else 1) ≤ a)) ∧
  (qhA G m = false → ∃ L, zgI z 6 2 e = Int32.ofNat L ∧ L ≤ 2048 ∧ L ≤ qhW G m ∧ qhW G m ≤ 2048 * (nw - kT (qhM G m)) + (if tk = true then 0 else L))
/-- all doors -/
def zJE (z w : St) (T : Tp) (nw : Nat) (tk : Nat → Bool) (n : Nat) (G : Gh) : Prop := ∃ mo : Nat → Nat, (∀ e, hEnd T e → zgI z 2 0 e = 2 → zJe z w nw (tk (e / 6)) n G e (mo e)) ∧ (∀ e e', hEnd T e → hEnd T e' → zgI z 2 0 e = 2 → zgI z 2 0 e' = 2 → mo e = mo e' → e = e') ∧ ∀ m, 1 ≤ m → m ≤ qhN G → qhD G m = false → ∃ e, hEnd T e ∧ zgI z 2 0 e = 2 ∧ mo e = m
/-- a maker's book as it is used now -/
def qcur (w : St) (G : Gh) (m : Nat) : Prop := (qhB G m).1 < 2592 ∧ zgA w 184 0 (qhB G m).1 = (qhB G m).2
/-- ledger and books -/
def zJB (z w : St) (T : Tp) (n : Nat) (G : Gh) : Prop :=
  (zgI z 11 19 0 = Int32.ofNat n ∧ zgI z 11 7 0 = Int32.ofNat (qhN G) ∧ qhN G < 2000000000 ∧ ∀ i, i < n → ∃ m, 1 ≤ m ∧ m ≤ qhN G ∧ zgA z 143 0 i = Int32.ofNat m) ∧
  (∀ m, 1 ≤ m → m ≤ qhN G → (lgS z (Int32.ofNat m) n).length = qhW G m ∧ (qhA G m = false → qcur w G m → zTie z w n (Int32.ofNat m) (qhB G m).1)) ∧
  (∀ m m', 1 ≤ m → m ≤ qhN G → 1 ≤ m' → m' ≤ qhN G → qcur w G m → qcur w G m' → (qhB G m).1 = (qhB G m').1 → m = m') ∧
  (∀ b, b < tb T → tr T b = false → zgI z 1 12 b = Int32.ofNat (qhO G b)) ∧
  ∀ e m, hEnd T e → zgI z 2 0 e = 2 → zgI z 3 14 e = Int32.ofNat m → m ≤ qhN G → qcur w G m ∧ zgI w 14 44 e = Int32.ofNat (qhB G m).1 ∧ (zgI w 14 17 e = 1 → qcur w G (qhP G m) ∧ zgI w 14 45 e = Int32.ofNat (qhB G (qhP G m)).1) ∧ (zgI w 14 17 e = 0 → zgI w 14 46 e = 0)
/-- ties of makers to books -/
def qK (w : St) (G : Gh) : Int32 → Int32 → Int32 → Prop := fun a b t => ∃ m, 1 ≤ m ∧ m ≤ qhN G ∧ qcur w G m ∧ a = Int32.ofNat m ∧ b = Int32.ofNat (qhB G m).1 ∧ t = (qhB G m).2
