/-! routers speak: frames, steps of the network, what is so of the registry -/
/-- what a router's speaking leaves alone, the class -/
def zFC (b : Nat) (z z' : St) : Prop := (∀ k j o, (k = 9 ∨ k = 0 ∨ (k = 11 ∧ j = 6) ∨ (k = 8 ∧ j = 5)) → j < 20 → ¬ (k = 9 ∧ j = 5 ∧ o = b) → zgI z' k j o = zgI z k j o) ∧ (∀ k o i, ((100 ≤ k ∧ k ≤ 111) ∨ (131 ≤ k ∧ k ≤ 138)) → ¬ (k = 135 ∧ b * 96 ≤ o ∧ o < b * 96 + 96) → zgA z' k o i = zgA z k o i) ∧ ∀ u, 515 ≤ u → u < 579 → (∀ j, zgI z' 7 j u = zgI z 7 j u) ∧ ∀ i, zgA z' 125 u i = zgA z 125 u i
theorem zFC_rf (b : Nat) (z : St) : zFC b z z := ⟨fun _ _ _ _ _ _ => rfl, fun _ _ _ _ _ => rfl, fun _ _ _ => ⟨fun _ => rfl, fun _ => rfl⟩⟩
theorem zFC_tr {b : Nat} {x y z : St} (h1 : zFC b x y) (h2 : zFC b y z) : zFC b x z := ⟨fun k j o a l n => (h2.1 k j o a l n).trans (h1.1 k j o a l n), fun k o i a n => (h2.2.1 k o i a n).trans (h1.2.1 k o i a n), fun u u1 u2 => ⟨fun j => ((h2.2.2 u u1 u2).1 j).trans ((h1.2.2 u u1 u2).1 j), fun i => ((h2.2.2 u u1 u2).2 i).trans ((h1.2.2 u u1 u2).2 i)⟩⟩
theorem zFC_kd {b : Nat} {z z' : St} (h : zKd b z z') : zFC b z z' := ⟨fun k j o a _ _ => h.1 k j o (by omega), fun k o i a _ => h.2.1 k o i (by omega) (by omega), fun u u1 _ => ⟨fun j => h.1 7 j u (by omega), fun i => h.2.1 125 u i (by omega) (by omega)⟩⟩
/-- what a router's speaking leaves alone, the model -/
def zFM (b : Nat) (w w' : St) : Prop := (∀ k j o, (k = 12 ∨ k = 15) → j < 30 → ¬ (k = 12 ∧ (j = 4 ∨ j = 7)) → 0 ≤ o → zgI w' k j o = zgI w k j o) ∧ (∀ k o i, ((150 ≤ k ∧ k ≤ 157) ∨ k = 162 ∨ k = 163 ∨ k = 178) → ¬ (k = 163 ∧ 16 * b ≤ o ∧ o < 16 * b + 16) → zgA w' k o i = zgA w k o i) ∧ (∀ o i, zgQ w' 149 o i = zgQ w 149 o i) ∧ ∀ j o, j = 4 ∨ j = 5 → zgI w' 18 j o = zgI w 18 j o
theorem zFM_rf (b : Nat) (w : St) : zFM b w w := ⟨fun _ _ _ _ _ _ _ => rfl, fun _ _ _ _ _ => rfl, fun _ _ => rfl, fun _ _ _ => rfl⟩
theorem zFM_tr {b : Nat} {x y z : St} (h1 : zFM b x y) (h2 : zFM b y z) : zFM b x z := ⟨fun k j o a l n m => (h2.1 k j o a l n m).trans (h1.1 k j o a l n m), fun k o i a n => (h2.2.1 k o i a n).trans (h1.2.1 k o i a n), fun o i => (h2.2.2.1 o i).trans (h1.2.2.1 o i), fun j o h => (h2.2.2.2 j o h).trans (h1.2.2.2 j o h)⟩
theorem zRcl_fc {b c : Nat} {z z' : St} {s : Rs} (h : zFC b z z') (hc : c ≠ b) (hR : zRcl z c s) : zRcl z' c s := by
  obtain ⟨a1, a2, a3, a4, a5, a6⟩ := hR
  have A : ∀ k i, ((100 ≤ k ∧ k ≤ 111) ∨ (131 ≤ k ∧ k ≤ 138)) → k ≠ 135 → zgA z' k c i = zgA z k c i := fun k i hk h5 => h.2.1 k c i hk (by omega)
  exact ⟨zRCh_cg (h.1 9 1 c (by omega) (by omega) (by omega)) (fun i => A 131 i (by omega) (by omega)) a1, zRCk_cz (h.1 9 5 c (by omega) (by omega) (by omega)) (fun i => A 132 i (by omega) (by omega)) (fun i => A 133 i (by omega) (by omega)) (fun o i o1 o2 => h.2.1 135 o i (by omega) (by omega)) a2, zRCt_cg (h.1 9 9 c (by omega) (by omega) (by omega)) (fun k i hk => A k i (by omega) (by omega)) a3, zRCb_cg (fun k i hk => A k i (by omega) (by omega)) (fun o i _ _ => h.2.1 104 o i (by omega) (by omega)) a4, (h.1 0 7 c (by omega) (by omega) (by omega)).trans a5, (h.1 0 8 c (by omega) (by omega) (by omega)).trans a6⟩
theorem zRml_fm {b c : Nat} {w w' : St} {T : Tp} {s : Rs} (h : zFM b w w') (hc : c ≠ b) (hR : zRml w T c s) : zRml w' T c s := by
  obtain ⟨⟨ids, a1⟩, a2, a3, a4, a5, a6⟩ := hR
  have I : ∀ j, j < 30 → j ≠ 4 → j ≠ 7 → zgI w' 12 j c = zgI w 12 j c := fun j jl j4 j7 => h.1 12 j c (by omega) jl (by omega) (by omega)
  exact ⟨⟨ids, zRmI_cg (I 13 (by omega) (by omega) (by omega)) (fun i => h.2.2.1 c i) (fun x x1 x2 => ⟨fun j _ => h.1 15 j x (by omega) (by omega) (by omega) (by omega), fun k i hk => h.2.1 k x i (by omega) (by omega)⟩) a1⟩, zRmT_cg (I 22 (by omega) (by omega) (by omega)) (fun k i hk => h.2.1 k c i (by omega) (by omega)) a2, zRmB_cg (fun k i hk => h.2.1 k c i (by omega) (by omega)) (fun x r _ _ _ k _ => h.2.1 178 0 _ (by omega) (by omega)) a3, (I 16 (by omega) (by omega) (by omega)).trans a4, (I 17 (by omega) (by omega) (by omega)).trans a5, (I 18 (by omega) (by omega) (by omega)).trans a6⟩
theorem zFC_fr {M b : Nat} {z z' : St} (f : zFr M z z') (h9 : ∀ j, j < 20 → M.testBit (64 * 9 + j) = false ∧ M.testBit (64 * 0 + j) = false) (h11 : M.testBit (64 * 11 + 6) = false ∧ M.testBit (64 * 8 + 5) = false) (hA : ∀ k, k < 139 → ((100 ≤ k ∧ k ≤ 111) ∨ (131 ≤ k ∧ k ≤ 138)) → M.testBit (1180 + k) = false) (k : ∀ u, 515 ≤ u → u < 579 → (∀ j, zgI z' 7 j u = zgI z 7 j u) ∧ ∀ i, zgA z' 125 u i = zgA z 125 u i) : zFC b z z' := ⟨fun k j o a jl _ => by
  rcases a with rfl | rfl | ⟨rfl, rfl⟩ | ⟨rfl, rfl⟩
  · exact zFr_gI f (by decide) (h9 j jl).1 o
  · exact zFr_gI f (by decide) (h9 j jl).2 o
  · exact zFr_gI f (by decide) h11.1 o
  · exact zFr_gI f (by decide) h11.2 o, fun k o i a _ => zFr_gA f (hA k (by omega) a) o i, k⟩
theorem zFC_hand {b : Nat} {X : List Nat} {z z' : St} (f : zFr mX11_hand z z') (k : zKe X z z') : zFC b z z' := zFC_fr f (by decide +kernel) (by decide +kernel) (by decide +kernel) (fun u u1 u2 => k u (Or.inl ⟨u1, u2⟩))
theorem zFC_put {b : Nat} {X : List Nat} {z z' : St} (f : zFr mX11_putOn z z') (k : zKp X z z') : zFC b z z' := zFC_fr f (by decide +kernel) (by decide +kernel) (by decide +kernel) (fun u u1 _ => k u (Or.inr (Or.inl u1)))
theorem zFM_fr {M b : Nat} {w w' : St} (f : zFr M w w') (h12 : ∀ j, j < 30 → (j = 4 ∨ j = 7 ∨ M.testBit (64 * 12 + j) = false) ∧ M.testBit (64 * 15 + j) = false) (hA : ∀ k, k < 179 → ((150 ≤ k ∧ k ≤ 157) ∨ k = 162 ∨ k = 163 ∨ k = 178) → M.testBit (1180 + k) = false) (hQ : M.testBit (1180 + 149) = false) (h18 : M.testBit (64 * 18 + 4) = false ∧ M.testBit (64 * 18 + 5) = false) : zFM b w w' := ⟨fun k j o a jl n _ => by
  rcases a with rfl | rfl
  · rcases (h12 j jl).1 with y | y | y
    · exact absurd ⟨rfl, Or.inl y⟩ n
    · exact absurd ⟨rfl, Or.inr y⟩ n
    · exact zFr_gI f (by decide) y o
  · exact zFr_gI f (by decide) (h12 j jl).2 o, fun k o i a _ => zFr_gA f (hA k (by omega) a) o i, fun o i => zFr_gQ f hQ o i, fun j o h => by
  rcases h with rfl | rfl
  · exact zFr_gI f (by decide) h18.1 o
  · exact zFr_gI f (by decide) h18.2 o⟩
theorem zFM_deliver {b : Nat} {w w' : St} (f : zFr mX19_deliver w w') : zFM b w w' := zFM_fr f (by decide +kernel) (by decide +kernel) (by decide) (by decide)
theorem zFM_carry {b : Nat} {w w' : St} (f : zFr mX19_carry w w') : zFM b w w' := zFM_fr f (by decide +kernel) (by decide +kernel) (by decide) (by decide)
theorem zFM_drop {b : Nat} {w w' : St} (f : zFr mX19_drop w w') : zFM b w w' := zFM_fr f (by decide +kernel) (by decide +kernel) (by decide) (by decide)
theorem zFM_make {b : Nat} {w w' : St} (f : zFr 0x8100000000000000000000000000000000040000000000000000000000000000000000000000000000000000000000000000000000000000000000000000000000000000000000000010000000000000000000000000000000000000000000000000000000000000000000000000000000000000000000000000000000000000000000000000000000000000000000000000000000000000000000000000000000000000000000000000 w w') : zFM b w w' := zFM_fr f (by decide +kernel) (by decide +kernel) (by decide) (by decide)
/-- steps of the network by box b: datagrams handed to a station, datagrams put -/
def zRch (T : Tp) (E : Ev) (b : Nat) (PD : Nat → Int32 → Dg → Prop) (g g' : Sg) : Prop := ∀ I : Sg → Prop, (∀ h q s D, tv T q → tw T q = b → s < 8 → PD q (Int32.ofNat s) D → I h → I (nHand E b h q s D)) → (∀ h q to D, tv T q → tw T q = b → (to = -1 ∨ ∃ t, t < 8 ∧ to = Int32.ofNat t) → PD q to D → I h → I (nCarry E b h q to D)) → I g → I g'
theorem zRch_rf {T : Tp} {E : Ev} {b : Nat} {PD : Nat → Int32 → Dg → Prop} (g : Sg) : zRch T E b PD g g := fun _ _ _ h => h
theorem zRch_tr {T : Tp} {E : Ev} {b : Nat} {PD : Nat → Int32 → Dg → Prop} {g1 g2 g3 : Sg} (h1 : zRch T E b PD g1 g2) (h2 : zRch T E b PD g2 g3) : zRch T E b PD g1 g3 := fun I a c h => h2 I a c (h1 I a c h)
/-- the registry tells the truth of routers' datagrams -/
def zRok (Q : Qt) (T : Tp) (R : Rg) : Prop := ∀ c n v, R c n = some v → (v.1.2.2.1 = 2 ∨ v.1.2.2.1 = 3 ∨ v.1.2.2.1 = 4) → ∃ p, tv T p ∧ tw T p = c ∧ v.1.1 = zad p ∧ zRkD Q T p (fun j => if j = 2 then v.1.2.2.1 else if j = 7 then v.1.2.2.2 else 0, v.2)
theorem zRkD_cg {Q : Qt} {T : Tp} {p : Nat} {D D' : Dg} (h2 : D'.1 2 = D.1 2) (h7 : D'.1 7 = D.1 7) (hB : D'.2 = D.2) (h : zRkD Q T p D) : zRkD Q T p D' := by
  have ew : dw D' = dw D := by unfold dw; rw [h7]
  unfold zRkD at h ⊢
  rw [h2, hB, ew]; exact h
theorem zRok_new {Q : Qt} {T : Tp} {R : Rg} {b n q : Nat} {D : Dg} (hq : tv T q) (hb : tw T q = b) (h0 : D.1 0 = zad q) (hD : zRkD Q T q D) (h : zRok Q T R) : zRok Q T (rgNew R b n D) := fun c k v e hk => by
  have e : (if c = b ∧ k = n then some ((D.1 0, D.1 1, D.1 2, D.1 7), D.2) else R c k) = some v := e
  by_cases y : c = b ∧ k = n
  · rw [if_pos y] at e
    have e := Option.some.inj e
    subst e
    exact ⟨q, hq, by rw [hb, y.1], h0, zRkD_cg (D := D) (by rfl) (by rfl) rfl hD⟩
  · rw [if_neg y] at e; exact h c k v e hk
theorem zRok_D {Q : Qt} {T : Tp} {R : Rg} {D : Dg} (hc : zTc T) (h : zRok Q T R) (hD : zPd T R D) (hk : D.1 2 = 2 ∨ D.1 2 = 3 ∨ D.1 2 = 4) : ∃ p, tv T p ∧ D.1 0 = zad p ∧ zRkD Q T p D := by
  obtain ⟨-, ⟨q, n, q1, q2, q3, q4, q5⟩, -⟩ := hD
  obtain ⟨p, p1, p2, p3, p4⟩ := h _ _ _ q5 hk
  exact ⟨p, p1, p3, zRkD_cg (D := (fun j => if j = 2 then D.1 2 else if j = 7 then D.1 7 else 0, D.2)) (by rfl) (by rfl) rfl p4⟩
