/-! the world: steps of the network leave routers, pieces and what goes with them alone -/
def mNwC : Nat := 0x6007e0020000000000000000000000000000000000000000000000000000000000000000000000000000000000000000000000000000000000000000000000000000000000000000000000098200000000000000001000000000000000000000000000012000000000000007eff0000000000000000000000000000026000000000000000000000000000003a01000000000000000000000000000000000000000000000000
def mNwM : Nat := 0x329b3fa00000000000000000000000008820884000000000000120000000000000000000000000000000180000000000000000000000803d0000001000000000000000000000000000002f0000000000000000000000000000000000000000000000000000000000000000000000000000000000000000000000000000000000000000000000000000000000000000000000000000000000000000000000000000000000000000000000000
/-- parcels of pieces stay -/
def zKs (z z' : St) : Prop := ∀ u, 515 ≤ u → u < 579 → (∀ j, zgI z' 7 j u = zgI z 7 j u) ∧ ∀ i, zgA z' 125 u i = zgA z 125 u i
theorem zKs_rf (z : St) : zKs z z := fun _ _ _ => ⟨fun _ => rfl, fun _ => rfl⟩
theorem zKs_tr {x y z : St} (h1 : zKs x y) (h2 : zKs y z) : zKs x z := fun u a b => ⟨fun j => ((h2 u a b).1 j).trans ((h1 u a b).1 j), fun i => ((h2 u a b).2 i).trans ((h1 u a b).2 i)⟩
theorem zKs_e {X : List Nat} {z z' : St} (h : zKe X z z') : zKs z z' := fun u a b => h u (Or.inl ⟨a, b⟩)
theorem zKs_kd {b : Nat} {z z' : St} (h : zKd b z z') : zKs z z' := fun u a _ => ⟨fun j => h.1 7 j u (by omega), fun i => h.2.1 125 u i (by omega) (by omega)⟩
/-- a step of the network, both sides -/
def zQt (T : Tp) (z z' w w' : St) : Prop := zFr mNwC z z' ∧ zKs z z' ∧ zS4 T z z' ∧ zFr mNwM w w'
theorem zQt_rf {T : Tp} {z w : St} (h : zTC z T) : zQt T z z w w := ⟨zFr_rf _ _, zKs_rf z, zS4_rf h, zFr_rf _ _⟩
theorem zQt_tr {T : Tp} {a b c x y z : St} (h1 : zQt T a b x y) (h2 : zQt T b c y z) : zQt T a c x z := ⟨zFr_tr h1.1 h2.1, zKs_tr h1.2.1 h2.2.1, zS4_tr h1.2.2.1 h2.2.2.1, zFr_tr h1.2.2.2 h2.2.2.2⟩
theorem zPcS_cg {z z' : St} {b ord : Nat} {L : List Pe} (h9 : zgI z' 1 9 b = zgI z 1 9 b) (h118 : ∀ i, zgA z' 118 b i = zgA z 118 b i) (h117 : ∀ i, zgA z' 117 b i = zgA z 117 b i) (h116 : ∀ o i, 4 * b ≤ o → o < 4 * b + 4 → zgL z' 116 o i = zgL z 116 o i) (hK : ∀ u, 515 + 4 * b ≤ u → u < 519 + 4 * b → (∀ j, zgI z' 7 j u = zgI z 7 j u) ∧ ∀ i, zgA z' 125 u i = zgA z 125 u i) (h : zPcS z b L ord) : zPcS z' b L ord := by
  obtain ⟨⟨a1, a2, a3⟩, ⟨os, a4, a5⟩, a6⟩ := h
  refine ⟨⟨a1, a2, h9.trans a3⟩, ⟨os, fun i hi => ⟨(h118 i).trans (a4 i hi).1, (a4 i hi).2⟩, a5⟩, fun e he => ?_⟩
  have := a2 e he
  obtain ⟨k1, k2⟩ := hK (515 + 4 * b + pes e) (by omega) (by omega)
  exact zPec_keep (fun j _ _ => k1 j) k2 (fun i => h116 _ i (by omega) (by omega)) (h117 _) (a6 e he)
theorem zPem_k6 {w w' : St} {e : Pe} (h1 : ∀ j, j < 6 → zgI w' 17 j (pep e) = zgI w 17 j (pep e)) (h2 : ∀ u, zgA w' 166 (pep e) u = zgA w 166 (pep e) u) (h : zPem w e) : zPem w' e := ⟨fun j hj => (h1 j (by omega)).trans (h.1 j hj), (h1 4 (by omega)).trans h.2.1, (h1 5 (by omega)).trans h.2.2.1, fun u hu => (h2 u).trans (h.2.2.2 u hu)⟩
theorem zPmS_cg {w w' : St} {b : Nat} {L : List Pe} (h11 : zgI w' 12 11 b = zgI w 12 11 b) (hQ : ∀ k, zgQ w' 148 b k = zgQ w 148 b k) (hI : ∀ o j, 4 * b ≤ o → o < 4 * b + 4 → j < 6 → zgI w' 17 j o = zgI w 17 j o) (hA : ∀ o i, 4 * b ≤ o → o < 4 * b + 4 → zgA w' 166 o i = zgA w 166 o i) (h : zPmS w b L) : zPmS w' b L := by
  obtain ⟨⟨a1, a2⟩, ⟨rest, a3, a4, a5, a6⟩, a7⟩ := h
  refine ⟨⟨a1, h11.trans a2⟩, ⟨rest, a3, a4, a5, fun k x hx => (hQ k).trans (a6 k x hx)⟩, fun e he => ?_⟩
  obtain ⟨y1, y2⟩ := a5 (pep e) (List.mem_append_left _ (List.mem_map.mpr ⟨e, he, rfl⟩))
  exact zPem_k6 (fun j hj => hI _ j y1 y2 hj) (fun u => hA _ u y1 y2) (a7 e he)
theorem zPp_cg {z z' w w' : St} {T : Tp} {E : Ev} {R R' : Rg} {b ord : Nat} {L : List Pe} (hR : ∀ c n v, R c n = some v → R' c n = some v) (h1 : zPcS z b L ord → zPcS z' b L ord) (h2 : zPmS w b L → zPmS w' b L) (h : zPp z w T E R b L ord) : zPp z' w' T E R' b L ord := by
  obtain ⟨a1, a2, a3, a4⟩ := h
  refine ⟨h1 a1, h2 a2, fun e he => ?_, a4⟩
  obtain ⟨b1, ⟨D0, b2, b3⟩, b4⟩ := a3 e he
  exact ⟨b1, ⟨D0, zPd_mono hR b2, b3⟩, b4⟩
theorem zPp_q {z z' w w' : St} {T : Tp} {E : Ev} {R R' : Rg} {b ord : Nat} {L : List Pe} (hb : b < 16) (q : zQt T z z' w w') (hR : ∀ c n v, R c n = some v → R' c n = some v) (h : zPp z w T E R b L ord) : zPp z' w' T E R' b L ord := by
  obtain ⟨q1, q2, -, q4⟩ := q
  exact zPp_cg hR (zPcS_cg (zFr_gI q1 (by decide) (by decide) b) (fun i => zFr_gA q1 (by decide) b i) (fun i => zFr_gA q1 (by decide) b i) (fun o i _ _ => zFr_gL q1 (by decide) o i) (fun u u1 u2 => q2 u (by omega) (by omega))) (zPmS_cg (zFr_gI q4 (by decide) (by decide) b) (fun k => zFr_gQ q4 (by decide) b k) (fun o j _ _ hj => by
    obtain rfl | rfl | rfl | rfl | rfl | rfl : j = 0 ∨ j = 1 ∨ j = 2 ∨ j = 3 ∨ j = 4 ∨ j = 5 := by omega
    all_goals exact zFr_gI q4 (by decide) (by decide) o) (fun o i _ _ => zFr_gA q4 (by decide) o i)) h
theorem zRml_q {w w' : St} {T : Tp} {c : Nat} {s : Rs} (hc : zTc T) (f : zFr mNwM w w') (hR : zRml w T c s) : zRml w' T c s := by
  obtain ⟨⟨ids, a1⟩, a2, a3, a4, a5, a6⟩ := hR
  refine ⟨⟨ids, zRmI_cg (zFr_gI f (by decide) (by decide) c) (fun i => zFr_gQ f (by decide) c i) (fun x x1 x2 => ⟨fun j hj => ?_, fun k i hk => ?_⟩) a1⟩, zRmT_cg (zFr_gI f (by decide) (by decide) c) (fun k i hk => ?_) a2, zRmB_cg (fun k i hk => ?_) (fun x r r16 hx e k hk => zFr_gA f (by decide) 0 _) a3, (zFr_gI f (by decide) (by decide) c).trans a4, (zFr_gI f (by decide) (by decide) c).trans a5, (zFr_gI f (by decide) (by decide) c).trans a6⟩
  · obtain rfl | rfl | rfl | rfl : j = 0 ∨ j = 1 ∨ j = 2 ∨ j = 3 := by omega
    all_goals exact zFr_gI f (by decide) (by decide) x
  · rcases hk with rfl | rfl <;> exact zFr_gA f (by decide) x i
  · rcases hk with rfl | rfl | rfl <;> exact zFr_gA f (by decide) c i
  · rcases hk with rfl | rfl <;> exact zFr_gA f (by decide) c i
/-- routers stay -/
theorem zOtC_q {z z' : St} (f : zFr mNwC z z') : zOtC 99 z z' := fun c _ => by
  refine ⟨fun s hR => zRcl_cg (fun j hj => ?_) (fun j hj => ?_) (fun k o i hk => ?_) hR, zFr_gI f (by decide) (by decide) c, zFr_gI f (by decide) (by decide) c, zFr_gI f (by decide) (by decide) c, zFr_gI f (by decide) (by decide) 0⟩
  · obtain rfl | rfl | rfl | rfl | rfl | rfl | rfl | rfl | rfl | rfl : j = 0 ∨ j = 1 ∨ j = 2 ∨ j = 3 ∨ j = 4 ∨ j = 5 ∨ j = 6 ∨ j = 7 ∨ j = 8 ∨ j = 9 := by omega
    all_goals exact zFr_gI f (by decide) (by decide) c
  · rcases hj with rfl | rfl <;> exact zFr_gI f (by decide) (by decide) c
  · have t : ∀ k, k < 139 → ((100 ≤ k ∧ k ≤ 104 ∧ k ≠ 103) ∨ (131 ≤ k ∧ k ≤ 138)) → mNwC.testBit (1180 + k) = false := by decide
    exact zFr_gA f (t k (by omega) hk) o i
theorem zOtM_q {w w' : St} {T : Tp} (hc : zTc T) (f : zFr mNwM w w') : zOtM T 99 w w' := fun c _ _ _ => ⟨fun s hR => zRml_q hc f hR, zFr_gI f (by decide) (by decide) c, zFr_gI f (by decide) (by decide) c, fun j _ => zFr_gI f (by decide) (by decide) _⟩
/-- all routers; their adverts' numbers Nm -/
def zWa (z w : St) (T : Tp) (E : Ev) (tl Nm : Nat → Nat) (V : Wyt) (S : Nat → Rs) : Prop := zTlC z T tl ∧ zTlM w T tl ∧ ∀ b, b < tb T → tr T b = true → zRx z w T E tl Nm V b (S b)
theorem zWa_q {z z' w w' : St} {T : Tp} {E : Ev} {tl Nm : Nat → Nat} {V : Wyt} {S : Nat → Rs} (hc : zTc T) (q : zQt T z z' w w') (h : zWa z w T E tl Nm V S) : zWa z' w' T E tl Nm V S := by
  obtain ⟨q1, -, -, q4⟩ := q
  refine ⟨fun p hp => ⟨(zFr_gI q1 (by decide) (by decide) p).trans (h.1 p hp).1, (h.1 p hp).2⟩, fun p hp => ⟨(zFr_gI q4 (by decide) (by decide) p).trans (h.2.1 p hp).1, (h.2.1 p hp).2⟩, fun b hb hr => ?_⟩
  have b16 : b < 16 := Nat.lt_of_lt_of_le hb hc.1
  exact zRx_ot (zOtC_q q1) (zOtM_q hc q4) (by omega) hb hr (fun _ => rfl) (fun _ => Nat.le_refl _) (h.2.2 b hb hr)
/-- all boxes' pieces -/
def zWp (z w : St) (T : Tp) (E : Ev) (R : Rg) (Lp : Nat → List Pe) (od : Nat → Nat) : Prop := ∀ b, b < tb T → zPp z w T E R b (Lp b) (od b)
theorem zWp_q {z z' w w' : St} {T : Tp} {E : Ev} {R R' : Rg} {Lp : Nat → List Pe} {od : Nat → Nat} (hc : zTc T) (q : zQt T z z' w w') (hR : ∀ c n v, R c n = some v → R' c n = some v) (h : zWp z w T E R Lp od) : zWp z' w' T E R' Lp od := fun b hb => zPp_q (Nat.lt_of_lt_of_le hb hc.1) q hR (h b hb)
/-- what is alike on both sides and nobody's: arrivals of nets, doors that listen, strays, own port numbers given -/
def zMs (z w : St) (T : Tp) : Prop := (∀ n, zgI z 5 10 n = zgI w 16 9 n) ∧ (∀ e, hEnd T e → zgI z 2 0 e = 1 → ∃ m, 1 ≤ m ∧ m ≤ 5 ∧ zgI z 2 4 e = Int32.ofNat m) ∧ zgI z 11 8 0 = zgI w 19 26 0 ∧ ∀ b, b < tb T → zgI z 1 12 b = zgI w 12 29 b
theorem zMs_q {z z' w w' : St} {T : Tp} (q : zQt T z z' w w') (h : zMs z w T) : zMs z' w' T := by
  obtain ⟨q1, -, -, q4⟩ := q
  refine ⟨fun n => ?_, fun e he => ?_, ?_, fun b hb => ?_⟩
  · rw [zFr_gI q1 (by decide) (by decide) n, zFr_gI q4 (by decide) (by decide) n]; exact h.1 n
  · rw [zFr_gI q1 (by decide) (by decide) e, zFr_gI q1 (by decide) (by decide) e]; exact h.2.1 e he
  · rw [zFr_gI q1 (by decide) (by decide) 0, zFr_gI q4 (by decide) (by decide) 0]; exact h.2.2.1
  · rw [zFr_gI q1 (by decide) (by decide) b, zFr_gI q4 (by decide) (by decide) b]; exact h.2.2.2 b hb
