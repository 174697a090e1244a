/-! what is so of every datagram: whose it is, which number, how far it may go, where it was cut -/
abbrev Rg : Type := Nat → Nat → Option ((Int32 × Int32 × Int32 × Int32) × (Nat → Int32))
def zPd (T : Tp) (R : Rg) (D : Dg) : Prop :=
  zDw D ∧ (∃ q n, tv T q ∧ D.1 0 = zad q ∧ D.1 3 = Int32.ofNat n ∧ n < 2147483648 ∧ R (tw T q) n = some ((D.1 0, D.1 1, D.1 2, D.1 7), D.2)) ∧
  (∃ l, 1 ≤ l ∧ l ≤ 64 ∧ D.1 4 = Int32.ofNat l) ∧ df D % 8 = 0 ∧ (dl D % 8 = 0 ∨ df D + dl D = dw D) ∧ (df D = 0 → 64 ≤ dl D ∨ dl D = dw D) ∧ (D.1 2 = 1 ∨ D.1 2 = 0 → 20 ≤ dw D)
theorem zPd_cl (T : Tp) (R : Rg) : zPcl (zPd T R) := by
  rintro D a b t n s ⟨h1, ⟨q, k, q1, q2, q3, q4, q5⟩, ⟨l, l1, l2, l3⟩, h4, h5, h6, h7⟩ hab hb ⟨c1, c2, c3⟩
  have w := zDw_cut h1 t n s hab hb
  have hw := h1.2.2.2.1
  have hw2 := h1.2.2.2.2.1
  have e5 : df (dCut D a b t n s) = df D + a := zoC (by omega)
  have e6 : dl (dCut D a b t n s) = b := zoC (by omega)
  have e7 : dw (dCut D a b t n s) = dw D := rfl
  refine ⟨w, ⟨q, k, q1, q2, q3, q4, q5⟩, ⟨l, l1, l2, l3⟩, by rw [e5]; omega, ?_, fun h => ?_, h7⟩
  · rw [e5, e6, e7]
    rcases c2 with c2 | c2
    · exact Or.inl c2
    · rcases h5 with h5 | h5
      · exact Or.inl (by omega)
      · exact Or.inr (by omega)
  · rw [e6, e7]
    rw [e5] at h
    rcases c3 (by omega) with c3 | c3
    · exact Or.inl c3
    · rcases h6 (by omega) with h6 | h6
      · exact Or.inl (by omega)
      · exact Or.inr (by omega)
theorem zPd_mono {T : Tp} {R R' : Rg} (h : ∀ b n v, R b n = some v → R' b n = some v) {D : Dg} (hd : zPd T R D) : zPd T R' D := by
  obtain ⟨h1, ⟨q, k, q1, q2, q3, q4, q5⟩, h3⟩ := hd
  exact ⟨h1, ⟨q, k, q1, q2, q3, q4, h _ _ _ q5⟩, h3⟩
theorem zGI_mono {T : Tp} {E : Ev} {P P' : Dg → Prop} {g : Sg} (hp : ∀ D, P D → P' D) (h : zGI T E P g) : zGI T E P' g := ⟨h.1, h.2.1, h.2.2.1, fun f hf => ⟨(h.2.2.2.1 f hf).1, fun a b => hp _ ((h.2.2.2.1 f hf).2 a b)⟩, fun q hq D hD => hp _ (h.2.2.2.2 q hq D hD)⟩
theorem zPai2_mono {z w : St} {T : Tp} {E : Ev} {gc gm : Sg} {Wy : Wyt} {P P' : Dg → Prop} {K : Int32 → Int32 → Int32 → Prop} {X XM TS TA TB : List Nat} (hp : ∀ D, P D → P' D) (h : zPai2 z w T E gc gm Wy P K X XM TS TA TB) : zPai2 z w T E gc gm Wy P' K X XM TS TA TB := ⟨h.1, h.2.1, h.2.2.1, zGI_mono hp h.2.2.2.1, h.2.2.2.2⟩
/-- the registry: only what was made is in it -/
def zRg (T : Tp) (z : St) (R : Rg) (mk : Nat → Nat) : Prop := (∀ b n v, R b n = some v → n < mk b) ∧ ∀ b, b < tb T → zgA z 113 b 2 = Int32.ofNat (mk b) ∧ mk b < 2147483647
def rgNew (R : Rg) (b n : Nat) (D : Dg) : Rg := fun c k => if c = b ∧ k = n then some ((D.1 0, D.1 1, D.1 2, D.1 7), D.2) else R c k
theorem rgNew_mono {R : Rg} {b n : Nat} {D : Dg} (h : R b n = none) : ∀ c k v, R c k = some v → rgNew R b n D c k = some v := fun c k v e => by
  show (if _ then _ else _) = _
  rw [if_neg (fun y => by rw [y.1, y.2, h] at e; cases e)]; exact e
theorem zRg_free {T : Tp} {z : St} {R : Rg} {mk : Nat → Nat} (h : zRg T z R mk) (b : Nat) : R b (mk b) = none := by
  cases e : R b (mk b) with
  | none => rfl
  | some v => have := h.1 b _ v e; omega
theorem zRg_new {T : Tp} {z z' : St} {R : Rg} {mk : Nat → Nat} {b : Nat} {D : Dg} (h : zRg T z R mk) (hm : mk b < 2147483646) (hb : b < tb T) (h1 : ∀ c, c ≠ b → zgA z' 113 c 2 = zgA z 113 c 2) (h2 : zgA z' 113 b 2 = zgA z 113 b 2 + 1) : zRg T z' (rgNew R b (mk b) D) (zupd mk b (mk b + 1)) := by
  refine ⟨fun c n v e => ?_, fun c hc => ?_⟩
  · have e : (if c = b ∧ n = mk b then some ((D.1 0, D.1 1, D.1 2, D.1 7), D.2) else R c n) = some v := e
    show n < (if c = b then mk b + 1 else mk c)
    by_cases y : c = b ∧ n = mk b
    · rw [if_pos y.1, y.2]; omega
    · rw [if_neg y] at e
      have := h.1 c n v e
      split
      · rename_i y; rw [y] at this; omega
      · exact this
  · by_cases y : c = b
    · subst y
      rw [zupd_s, h2, (h.2 c hc).1, zo_i1]
      exact ⟨rfl, by omega⟩
    · rw [zupd_n y, h1 c y]; exact h.2 c hc
theorem zRg_same {T : Tp} {z z' : St} {R : Rg} {mk : Nat → Nat} (h : zRg T z R mk) (h1 : ∀ c, zgA z' 113 c 2 = zgA z 113 c 2) : zRg T z' R mk := ⟨h.1, fun c hc => by rw [h1 c]; exact h.2 c hc⟩
theorem zPd_err {T : Tp} {R : Rg} {b q n : Nat} {D : Dg} {why : Int32} {old : Nat → Int32} (hq : tv T q) (hb : tw T q = b) (hn : n < 2147483648) : zPd T (rgNew R b n (dErr q D (Int32.ofNat n) why old)) (dErr q D (Int32.ofNat n) why old) := by
  refine ⟨zDw_err _ _ _ _ _, ⟨q, n, hq, rfl, rfl, hn, ?_⟩, ⟨64, by omega, by omega, rfl⟩, ?_, ?_, ?_, ?_⟩
  · show (if _ then _ else _) = _
    rw [if_pos ⟨hb, rfl⟩]
  · show 0 % 8 = 0; rfl
  · right; show 0 + 36 = 36; rfl
  · intro _; right; show 36 = 36; rfl
  · intro _; show 20 ≤ 36; omega
