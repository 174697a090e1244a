/-! what is so of frames, of what waits, of pieces: routers' datagrams are what they say; frames' nets are up -/
/-- a router's datagram of port q -/
def rK (T : Tp) (Nm : Nat → Nat) (q : Nat) (D : Dg) : Prop := (D.1 2 = 2 ∨ D.1 2 = 3 ∨ D.1 2 = 4) → D.1 0 = zad q ∧ tr T (tw T q) = true ∧ zRkD (Qg T Nm) T q D
def rF (T : Tp) (E : Ev) (Nm : Nat → Nat) (u5 : Nat → Prop) (f : Fr) : Prop := ∃ p, tv T p ∧ f.2.1 12 = Int32.ofNat (p / 8) ∧ f.2.1 13 = Int32.ofNat (p % 8) ∧ eU E (p / 8) = true ∧ (f.1 = eN E → u5 (p / 8)) ∧ rK T Nm p f.2 ∧ ((f.2.1 2 = 2 ∨ f.2.1 2 = 3 ∨ f.2.1 2 = 4) → f.2.1 11 = -1 ∨ ∃ t, t < 8 ∧ f.2.1 11 = Int32.ofNat t ∧ t ≠ p % 8)
def rW (T : Tp) (Nm : Nat → Nat) (q : Nat) (D : Dg) : Prop := rK T Nm q D ∧ ((D.1 2 = 2 ∨ D.1 2 = 3 ∨ D.1 2 = 4) → wTo D < 8 ∧ wTo D ≠ q % 8)
def rD (T : Tp) (Nm : Nat → Nat) (q : Nat) (to : Int32) (D : Dg) : Prop := rK T Nm q D ∧ ((D.1 2 = 2 ∨ D.1 2 = 3 ∨ D.1 2 = 4) → to = -1 ∨ ∃ t, t < 8 ∧ to = Int32.ofNat t ∧ t ≠ q % 8)
theorem rK_cg {T : Tp} {Nm : Nat → Nat} {q : Nat} {D D' : Dg} (h0 : D'.1 0 = D.1 0) (h2 : D'.1 2 = D.1 2) (h7 : D'.1 7 = D.1 7) (hB : D'.2 = D.2) (h : rK T Nm q D) : rK T Nm q D' := fun k => by
  rw [h2] at k
  obtain ⟨a, b, c⟩ := h k
  exact ⟨h0.trans a, b, zRkD_cg h2 h7 hB c⟩
theorem rK_up {T : Tp} {Nm Nm' : Nat → Nat} {q : Nat} {D : Dg} (hN : ∀ r, Nm r ≤ Nm' r) (h : rK T Nm q D) : rK T Nm' q D := fun k => by
  obtain ⟨a, b, c⟩ := h k
  exact ⟨a, b, zRkD_q (Qg_up hN) c⟩
theorem rK_no {T : Tp} {Nm : Nat → Nat} {q : Nat} {D : Dg} (h : D.1 2 = 0 ∨ D.1 2 = 1 ∨ D.1 2 = 5 ∨ D.1 2 = 6) : ¬ (D.1 2 = 2 ∨ D.1 2 = 3 ∨ D.1 2 = 4) := fun y => by
  rcases h with h | h | h | h <;> (rw [h] at y; exact absurd y (by decide))
theorem rD_no {T : Tp} {Nm : Nat → Nat} {q : Nat} {to : Int32} {D : Dg} (h : D.1 2 = 0 ∨ D.1 2 = 1 ∨ D.1 2 = 5 ∨ D.1 2 = 6) : rD T Nm q to D := ⟨fun y => absurd y (rK_no (T := T) (Nm := Nm) (q := q) h), fun y => absurd y (rK_no (T := T) (Nm := Nm) (q := q) h)⟩
theorem zDue_n {T : Tp} {E : Ev} {q t : Nat} (hw : zEw T E) (hc : zTc T) (hq : tv T q) (h : zDue E q t) : eU E (q / 8) = true ∧ eN E < t ∧ t ≤ eN E + 200 := by
  obtain ⟨hn, -⟩ := hq
  obtain ⟨-, -, d1, d2⟩ := hw.2 (q / 8) hn
  obtain ⟨h1, h2⟩ := h
  exact ⟨h1, by omega, by omega⟩
theorem rQcl {T : Tp} {E : Ev} {Nm : Nat → Nat} {u5 : Nat → Prop} (hw : zEw T E) (hc : zTc T) : zQcl T E (rF T E Nm u5) (fun q _ D => rW T Nm q D) (rD T Nm) := by
  refine ⟨fun q to D a b t hq hDw hD hab hb hct hdue => ?_, fun q s D a hq hs hD h1 h2 h3 => ⟨rK_cg rfl rfl rfl rfl hD.1, fun k => ?_⟩, fun q c D a b t hq hDw hD hd hab hb hct hdue => ?_, fun q to kind addr t hq hk hdue => ?_, fun q hq => ⟨fun y => ?_, fun y => ?_⟩⟩
  · obtain ⟨u1, u2, -⟩ := zDue_n hw hc hq hdue
    exact ⟨q, hq, rfl, rfl, u1, fun y => absurd (show t = eN E from y) (by omega), rK_cg rfl rfl rfl rfl hD.1, fun k => hD.2 k⟩
  · have e : wTo (dWait D s) = s := by
      show (Int32.ofNat s).toNatClampNeg = s
      exact zoC (by omega)
    rw [e]
    refine ⟨hs, ?_⟩
    rcases hD.2 k with y | ⟨t, t1, t2, t3⟩
    · exact absurd y (zo_ne1 (by omega))
    · have : s = t := (zo_eq (by omega) (by omega)).mp t2
      rw [this]; exact t3
  · obtain ⟨u1, u2, -⟩ := zDue_n hw hc hq hdue
    refine ⟨q, hq, rfl, rfl, u1, fun y => absurd (show t = eN E from y) (by omega), rK_cg rfl rfl rfl rfl hD.1, fun k => ?_⟩
    obtain ⟨k1, k2⟩ := hD.2 k
    exact Or.inr ⟨wTo D, k1, rfl, k2⟩
  · obtain ⟨u1, u2, -⟩ := zDue_n hw hc hq hdue
    have no : ¬ (kind = 2 ∨ kind = 3 ∨ kind = 4) := by rcases hk with rfl | rfl <;> decide
    exact ⟨q, hq, rfl, rfl, u1, fun y => absurd (show t = eN E from y) (by omega), fun y => absurd (show kind = 2 ∨ kind = 3 ∨ kind = 4 from y) no, fun y => absurd (show kind = 2 ∨ kind = 3 ∨ kind = 4 from y) no⟩
  · exact absurd (show (5 : Int32) = 2 ∨ (5 : Int32) = 3 ∨ (5 : Int32) = 4 from y) (by decide)
  · exact absurd (show (5 : Int32) = 2 ∨ (5 : Int32) = 3 ∨ (5 : Int32) = 4 from y) (by decide)
theorem zQI_mono {T : Tp} {QF QF' : Fr → Prop} {QW QW' : Nat → Nat → Dg → Prop} {g : Sg} (h1 : ∀ f, QF f → QF' f) (h2 : ∀ q a D, tv T q → QW q a D → QW' q a D) (h : zQI T QF QW g) : zQI T QF' QW' g := ⟨fun f hf => h1 f (h.1 f hf), fun q hq D hD => h2 q _ D hq (h.2.1 q hq D hD), fun q hq x hx => h2 q _ _ hq (h.2.2 q hq x hx)⟩
theorem zQI_and {T : Tp} {QF QF' : Fr → Prop} {QW QW' : Nat → Nat → Dg → Prop} {g : Sg} (h : zQI T QF QW g) (h' : zQI T QF' QW' g) : zQI T (fun f => QF f ∧ QF' f) (fun q a D => QW q a D ∧ QW' q a D) g := ⟨fun f hf => ⟨h.1 f hf, h'.1 f hf⟩, fun q hq D hD => ⟨h.2.1 q hq D hD, h'.2.1 q hq D hD⟩, fun q hq x hx => ⟨h.2.2 q hq x hx, h'.2.2 q hq x hx⟩⟩
/-- pieces: routers' datagrams -/
def rP (T : Tp) (Nm : Nat → Nat) (L : List Pe) : Prop := ∀ e, e ∈ L → ∃ p, tv T p ∧ rK T Nm p (peD e)
