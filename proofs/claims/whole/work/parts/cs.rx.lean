/-! a router between its turns -/
/-- adverts: numbers that were made, nets that there are -/
def Qg (T : Tp) (Nm : Nat → Nat) : Qt := fun of_ num L => num ≤ Nm of_ ∧ ∀ e, e ∈ L → e.2.1 < tn T
theorem zRkD_q {Q Q' : Qt} {T : Tp} {p : Nat} {D : Dg} (h : ∀ a n L, Q a n L → Q' a n L) (hD : zRkD Q T p D) : zRkD Q' T p D := by
  rcases hD with hD | ⟨k3, of_, num, L, ho, hn1, hn, hA, hL, hdw, hQ⟩ | hD
  · exact Or.inl hD
  · exact Or.inr (Or.inl ⟨k3, of_, num, L, ho, hn1, hn, hA, hL, hdw, h _ _ _ hQ⟩)
  · exact Or.inr (Or.inr hD)
theorem zRok_q {Q Q' : Qt} {T : Tp} {R : Rg} (h : ∀ a n L, Q a n L → Q' a n L) (hR : zRok Q T R) : zRok Q' T R := fun c n v e k => by
  obtain ⟨p, p1, p2, p3, p4⟩ := hR c n v e k
  exact ⟨p, p1, p2, p3, zRkD_q h p4⟩
theorem Qg_up {T : Tp} {Nm Nm' : Nat → Nat} (h : ∀ r, Nm r ≤ Nm' r) : ∀ a n L, Qg T Nm a n L → Qg T Nm' a n L := fun a _ _ hQ => ⟨Nat.le_trans hQ.1 (h a), hQ.2⟩
/-- what is so of a base's adverts -/
def zBq (T : Tp) (E : Ev) (Nm : Nat → Nat) (Ba : Nat → Option Ad) : Prop := ∀ r a, Ba r = some a → a.2.1 ≤ eN E ∧ zEn a.2.2 ∧ Qg T Nm r a.1 a.2.2
theorem zBq_t {T : Tp} {E : Ev} {Nm : Nat → Nat} {Ba : Nat → Option Ad} (h : zBq T E Nm Ba) : zBt T Ba := by
  refine ⟨fun r => ?_, fun r e he => ?_⟩
  · unfold bE
    cases q : Ba r with
    | none => exact ⟨Nat.zero_le _, fun e he => by cases he⟩
    | some a => exact (h r a q).2.1
  · unfold bE at he
    cases q : Ba r with
    | none => rw [q] at he; cases he
    | some a => rw [q] at he; exact (h r a q).2.2.2 e he
theorem bLs_E {Ba : Nat → Option Ad} {b : Nat} {L : List En} (h : bLs Ba b = some L) : bE Ba b = L := by
  unfold bLs at h
  unfold bE
  cases q : Ba b with
  | none => rw [q] at h; cases h
  | some a => rw [q] at h; exact Option.some.inj h
/-- friends of keys that are known -/
theorem rDr_oa {T : Tp} {E : Ev} {tl : Nat → Nat} {b : Nat} {F : List Nat} (hc : zTc T) (hb : b < tb T) (hF : F.Pairwise (fun x y => x < y)) (hK : ∀ x, x ∈ F → zKok T b x) : zOa T b (rDr T E tl b F) ∧ ∀ e, e ∈ rDr T E tl b F → e.2.1 < tn T := by
  refine ⟨⟨?_, fun e he h0 => ?_⟩, fun e he => ?_⟩
  · refine List.pairwise_append.mpr ⟨?_, ?_, fun x hx y _ hx0 _ => ?_⟩
    · exact (dN_pw T E tl b _).imp (fun h _ _ => h)
    · exact (dF_pw hc hb hF _).imp (fun h _ _ => h)
    · obtain ⟨n, p, -, -, -, e⟩ := dN_mem.mp hx
      rw [e] at hx0; exact absurd rfl hx0
  · rcases List.mem_append.mp he with h | h
    · obtain ⟨n, p, -, -, -, e1⟩ := dN_mem.mp h
      rw [e1] at h0; exact absurd rfl h0
    · obtain ⟨n, p, x, hn, hp, hx, hi, rfl⟩ := dF_mem.mp h
      obtain ⟨k1, k2, k3, k4, q2, k5⟩ := hK x hx
      obtain ⟨p1, p2, p3, p4, p5⟩ := tpo_some hc hb hp
      rw [hi, p5] at k5
      show x % 16 + 1 - 1 < tb T ∧ x % 16 + 1 - 1 ≠ b ∧ tr T (x % 16 + 1 - 1) = true ∧ (∃ q, tpo T b (p / 8) = some q) ∧ ∃ q, tpo T (x % 16 + 1 - 1) (p / 8) = some q
      rw [Nat.add_sub_cancel]
      exact ⟨k2, k4, k3, ⟨p, by rw [p3]; exact hp⟩, q2, k5⟩
  · rcases List.mem_append.mp he with h | h
    · obtain ⟨n, p, hn, -, -, rfl⟩ := dN_mem.mp h
      exact hn
    · obtain ⟨n, p, x, hn, hp, hx, hi, rfl⟩ := dF_mem.mp h
      obtain ⟨p1, -⟩ := tpo_some hc hb hp
      exact p1.1
theorem fks_ok {T : Tp} {b : Nat} {H : List Nb} (h : ∀ n, n ∈ H → n.1 / 16 < tp T b ∧ n.1 % 16 < tb T ∧ tr T (n.1 % 16) = true ∧ n.1 % 16 ≠ b ∧ ∃ p, tpo T (n.1 % 16) (tq T b (n.1 / 16) / 8) = some p) : ∀ x, x ∈ fks H → zKok T b x := fun x hx => by
  obtain ⟨n, n1, n2, -⟩ := fks_sub hx
  rw [← n2]; exact h n n1
theorem rDr_cg {T : Tp} {E E' : Ev} {tl : Nat → Nat} {b : Nat} {F : List Nat} (h : ∀ n p, tpo T b n = some p → eU E' n = eU E n) : rDr T E' tl b F = rDr T E tl b F := by
  unfold rDr
  congr 1
  unfold dN
  congr 1
  funext n
  cases e : tpo T b n with
  | none => rfl
  | some p => dsimp only; rw [h n p e]
theorem cWay_cg {T : Tp} {E E' : Ev} {tl : Nat → Nat} {b n : Nat} {Ba : Nat → Option Ad} (h : ∀ n p, tpo T b n = some p → eU E' n = eU E n) : cWay T E' tl b Ba n = cWay T E tl b Ba n := by
  unfold cWay rWay
  cases e : tpo T b n with
  | none => rfl
  | some p => dsimp only; rw [h n p e]
theorem seen_cg {w : St} {T : Tp} {E E' : Ev} {b : Nat} (hc : zTc T) (hb : b < tb T) (h1 : ∀ j, j < tp T b → zgI w 18 5 (tq T b j) = zbi (eU E' (tq T b j / 8))) (h2 : ∀ j, j < tp T b → zgI w 18 5 (tq T b j) = zbi (eU E (tq T b j / 8))) : ∀ n p, tpo T b n = some p → eU E' n = eU E n := fun n p hp => by
  obtain ⟨p1, p2, p3, p4, p5⟩ := tpo_some hc hb hp
  have a := h1 (ti T p) p4
  have c := h2 (ti T p) p4
  rw [p5, p3] at a c
  rw [a] at c
  exact (zbi_e _ _).mp c
/-- what the class holds of b's draft and ways -/
def zFgC (z : St) (T : Tp) (E : Ev) (tl : Nat → Nat) (V : Wyt) (b : Nat) (s : Rs) : Prop := zgI z 9 11 b = zgI z 11 6 0 → (zgI z 9 10 b = 0 → bLs (rB s) b = some (rDr T E tl b (fks (rH s)))) ∧ (zgI z 0 9 b = 0 → ∀ n, n < 24 → V b n = wI (cWay T E tl b (rB s) n))
/-- what the model holds of them, by what its ports saw -/
def zFgM (w : St) (T : Tp) (tl : Nat → Nat) (V : Wyt) (b : Nat) (s : Rs) : Prop := ∃ E', (∀ j, j < tp T b → zgI w 18 5 (tq T b j) = zbi (eU E' (tq T b j / 8))) ∧ (zgI w 12 24 b = 0 → bLs (rB s) b = some (rDr T E' tl b (fks (rH s)))) ∧ (zgI w 12 23 b = 0 → ∀ n, n < 24 → V b n = wI (cWay T E' tl b (rB s) n))
/-- a router's own numbers -/
def zOn (E : Ev) (Nm : Nat → Nat) (b : Nat) (s : Rs) : Prop := zOw b s ∧ (ro s ≠ 0 → eN E ≤ rm s + 2000) ∧ ro s ≤ Nm b ∧ rh s ≤ Nm b
def zRx (z w : St) (T : Tp) (E : Ev) (tl Nm : Nat → Nat) (V : Wyt) (b : Nat) (s : Rs) : Prop :=
  zRp z w T E b s ∧ zOn E Nm b s ∧ (zBq T E Nm (rB s) ∧ zOa T b (bE (rB s) b)) ∧ (∀ e, e ∈ rT s → 1 ≤ e.2.2) ∧ (∀ n, tn T ≤ n → n < 24 → V b n = (-1, -1, -1)) ∧ (zFgC z T E tl V b s ∧ zFgM w T tl V b s) ∧ (zgI w 12 23 b = 0 ∨ zgI w 12 23 b = 1)
theorem hSil_up {T : Tp} {E : Ev} {b : Nat} {H : List Nb} (h : ∀ n, n ∈ H → n.1 / 16 < tp T b) : zHup T E b (hSil T E b H) := fun n hn => by
  obtain ⟨h1, h2⟩ := List.mem_filter.mp hn
  refine ⟨h n h1, ?_⟩
  unfold hSk at h2
  rw [Bool.and_eq_true] at h2
  exact h2.1
