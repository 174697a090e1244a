/-! the world: steps of the network leave routers, pieces and what goes with them alone -/
def mNwC : Nat := 0x6007e0020000000000000000000000000000000000000000000000000000000000000000000000000000000000000000000000000000000000000000000000000000000000000000000000098200000000000000001000000000000000000000000000012000000000000007eff0000000000000000000000000000026000000000000000000000000000003a01000000000000000000000000000000000000000000000000
def mNwM : Nat := 0x329b3fa00000000000000000000000008820884000000000000120000000000000000000000000000000180000000000000000000000803d0000001000000000000000000000000000003f0000000000000000000000000000000000000000000000000000000000000000000000000000000000000000000000000000000000000000000000000000000000000000000000000000000000000000000000000000000000000000000000000
/-- parcels of pieces stay -/
def zKs (z z' : St) : Prop := ∀ u, 515 ≤ u → u < 579 → (∀ j, j < 15 → zgI z' 7 j u = zgI z 7 j u) ∧ ∀ i, zgA z' 125 u i = zgA z 125 u i
theorem zKs_rf (z : St) : zKs z z := fun _ _ _ => ⟨fun _ _ => rfl, fun _ => rfl⟩
theorem zKs_tr {x y z : St} (h1 : zKs x y) (h2 : zKs y z) : zKs x z := fun u a b => ⟨fun j hj => ((h2 u a b).1 j hj).trans ((h1 u a b).1 j hj), fun i => ((h2 u a b).2 i).trans ((h1 u a b).2 i)⟩
theorem zKs_e {X : List Nat} {z z' : St} (h : zKe X z z') : zKs z z' := fun u a b => ⟨fun j _ => (h u (Or.inl ⟨a, b⟩)).1 j, (h u (Or.inl ⟨a, b⟩)).2⟩
theorem zKs_kd {b : Nat} {z z' : St} (h : zKd b z z') : zKs z z' := fun u a _ => ⟨fun j _ => h.1 7 j u (by omega), fun i => h.2.1 125 u i (by omega) (by omega)⟩
/-- all parcels stay, but what is read of their heads -/
def zK7 (z z' : St) : Prop := ∀ v, (∀ j, j < 15 → zgI z' 7 j v = zgI z 7 j v) ∧ ∀ i, zgA z' 125 v i = zgA z 125 v i
theorem zK7_s {z z' : St} (h : zK7 z z') : zKs z z' := fun v _ _ => h v
theorem zK7_rf (z : St) : zK7 z z := fun _ => ⟨fun _ _ => rfl, fun _ => rfl⟩
theorem zK7_tr {x y z : St} (h1 : zK7 x y) (h2 : zK7 y z) : zK7 x z := fun v => ⟨fun j hj => ((h2 v).1 j hj).trans ((h1 v).1 j hj), fun i => ((h2 v).2 i).trans ((h1 v).2 i)⟩
/-- a step of the network, both sides -/
def zQt (T : Tp) (z z' w w' : St) : Prop := zFr mNwC z z' ∧ zKs z z' ∧ zS4 T z z' ∧ zFr mNwM w w'
theorem zQt_rf {T : Tp} {z w : St} (h : zTC z T) : zQt T z z w w := ⟨zFr_rf _ _, zKs_rf z, zS4_rf h, zFr_rf _ _⟩
theorem zQt_tr {T : Tp} {a b c x y z : St} (h1 : zQt T a b x y) (h2 : zQt T b c y z) : zQt T a c x z := ⟨zFr_tr h1.1 h2.1, zKs_tr h1.2.1 h2.2.1, zS4_tr h1.2.2.1 h2.2.2.1, zFr_tr h1.2.2.2 h2.2.2.2⟩
/-- both agree on what the mask names -/
def zAgr (M : Nat) (z z' : St) : Prop := (∀ k j o, k < 100 → j < 64 → M.testBit (64 * k + j) = true → zgI z' k j o = zgI z k j o) ∧ ∀ k o i, M.testBit (1180 + k) = true → zgA z' k o i = zgA z k o i ∧ zgL z' k o i = zgL z k o i ∧ zgQ z' k o i = zgQ z k o i
theorem zAgr_rf (M : Nat) (z : St) : zAgr M z z := ⟨fun _ _ _ _ _ _ => rfl, fun _ _ _ _ => ⟨rfl, rfl, rfl⟩⟩
theorem zAgr_tr {M : Nat} {x y z : St} (h1 : zAgr M x y) (h2 : zAgr M y z) : zAgr M x z := ⟨fun k j o a b c => (h2.1 k j o a b c).trans (h1.1 k j o a b c), fun k o i a => ⟨(h2.2 k o i a).1.trans (h1.2 k o i a).1, (h2.2 k o i a).2.1.trans (h1.2 k o i a).2.1, (h2.2 k o i a).2.2.trans (h1.2 k o i a).2.2⟩⟩
theorem zAgr_fr {M M' : Nat} {z z' : St} (f : zFr M' z z') (h : M &&& M' = 0) : zAgr M z z' := ⟨fun _ _ o hk _ c => zFr_gI f hk (ztf h c) o, fun _ o i c => ⟨zFr_gA f (ztf h c) o i, zFr_gL f (ztf h c) o i, zFr_gQ f (ztf h c) o i⟩⟩
theorem zAgr_I {M : Nat} {z z' : St} (h : zAgr M z z') (k j : Nat) (hk : k < 100) (hj : j < 64) (hm : M.testBit (64 * k + j) = true) (o : Nat) : zgI z' k j o = zgI z k j o := h.1 k j o hk hj hm
theorem zAgr_A {M : Nat} {z z' : St} (h : zAgr M z z') (k : Nat) (hm : M.testBit (1180 + k) = true) (o i : Nat) : zgA z' k o i = zgA z k o i := (h.2 k o i hm).1
theorem zAgr_L {M : Nat} {z z' : St} (h : zAgr M z z') (k : Nat) (hm : M.testBit (1180 + k) = true) (o i : Nat) : zgL z' k o i = zgL z k o i := (h.2 k o i hm).2.1
theorem zAgr_Q {M : Nat} {z z' : St} (h : zAgr M z z') (k : Nat) (hm : M.testBit (1180 + k) = true) (o i : Nat) : zgQ z' k o i = zgQ z k o i := (h.2 k o i hm).2.2
/-- no bit of a kind of objects -/
abbrev nB (M k : Nat) : Prop := ∀ j, j < 64 → M.testBit (64 * k + j) = false
theorem nB_no {M k j : Nat} (h : nB M k) (hj : j < 64) (c : M.testBit (64 * k + j) = true) : False := by rw [h j hj] at c; cases c
theorem zAgr_ec {M e : Nat} {z z' : St} (h : zEc1 e z z') (h3 : nB M 3) (h4 : nB M 4) (h6 : nB M 6) (h10 : nB M 10) (hA : M.testBit (1180 + 120) = false ∧ M.testBit (1180 + 121) = false ∧ M.testBit (1180 + 124) = false) : zAgr M z z' := by
  obtain ⟨a1, a2, a3, a4, -⟩ := h
  refine ⟨fun k j o hk hj c => a1 k j o ?_, fun k o i c => ⟨a2 k o i ?_, a3 k o i, a4 k o i⟩⟩
  · rintro ⟨rfl | rfl | rfl | rfl, -⟩
    · exact nB_no h3 hj c
    · exact nB_no h4 hj c
    · exact nB_no h6 hj c
    · exact nB_no h10 hj c
  · rintro ⟨rfl | rfl | rfl, -⟩
    · rw [hA.1] at c; cases c
    · rw [hA.2.1] at c; cases c
    · rw [hA.2.2] at c; cases c
theorem zAgr_be {M e : Nat} {w w' : St} (h : zBe e w w') (h14 : nB M 14) (h19 : M.testBit (64 * 19 + 17) = false) (hA : ∀ k, k ∈ [159, 160, 161, 181, 182, 183, 184, 185] → M.testBit (1180 + k) = false) : zAgr M w w' := by
  obtain ⟨a1, a2, a3, a4, -⟩ := h
  refine ⟨fun k j o hk hj c => a1 k j o ?_ ?_, fun k o i c => ⟨a2 k o i ?_ ?_, a3 k o i ?_, a4 k o i⟩⟩
  · rintro ⟨rfl, -⟩; exact nB_no h14 hj c
  · rintro ⟨rfl, rfl⟩; rw [h19] at c; cases c
  · rintro ⟨hk, -⟩; rw [hA k (by simp only [List.mem_cons, List.not_mem_nil, or_false]; omega)] at c; cases c
  · rintro hk; rw [hA k (by simp only [List.mem_cons, List.not_mem_nil, or_false]; omega)] at c; cases c
  · rintro rfl; rw [hA 181 (by simp)] at c; cases c
theorem zAgr_kd {M b : Nat} {z z' : St} (h : zKd b z z') (h7 : nB M 7) (hA : M.testBit (1180 + 125) = false ∧ M.testBit (1180 + 113) = false) : zAgr M z z' := by
  obtain ⟨a1, a2, a3, a4, -⟩ := h
  refine ⟨fun k j o hk hj c => a1 k j o ?_, fun k o i c => ⟨a2 k o i ?_ ?_, a3 k o i, a4 k o i⟩⟩
  · rintro ⟨rfl, -⟩; exact nB_no h7 hj c
  · rintro ⟨rfl, -⟩; rw [hA.1] at c; cases c
  · rintro ⟨rfl, -⟩; rw [hA.2] at c; cases c
theorem zAgr_dm {M e : Nat} {w w' : St} (h : zDm e w w') (hL : ∀ k u i, zgL w' k u i = zgL w k u i) (hQ : ∀ k o i, zgQ w' k o i = zgQ w k o i) (h13 : nB M 13) (h14 : nB M 14) (h19 : M.testBit (64 * 19 + 17) = false ∧ M.testBit (64 * 19 + 26) = false) (hA : ∀ k, k ∈ [159, 160, 161, 182, 183, 184, 185] → M.testBit (1180 + k) = false) : zAgr M w w' := by
  obtain ⟨a1, a2⟩ := h
  refine ⟨fun k j o hk hj c => a1 k j o ?_ ?_, fun k o i c => ⟨a2 k o i ?_ ?_, hL k o i, hQ k o i⟩⟩
  · rintro ⟨rfl | rfl, -⟩
    · exact nB_no h13 hj c
    · exact nB_no h14 hj c
  · rintro ⟨rfl, rfl | rfl⟩
    · rw [h19.1] at c; cases c
    · rw [h19.2] at c; cases c
  · rintro ⟨hk, -⟩; rw [hA k (by simp only [List.mem_cons, List.not_mem_nil, or_false]; omega)] at c; cases c
  · rintro hk; rw [hA k (by simp only [List.mem_cons, List.not_mem_nil, or_false]; omega)] at c; cases c
/-- a step by single writes named -/
theorem zAgr_of {M : Nat} {z z' : St} (h : ∀ k j o, k < 100 → j < 64 → M.testBit (64 * k + j) = true → zgI z' k j o = zgI z k j o) (hA : ∀ k o i, zgA z' k o i = zgA z k o i) (hL : ∀ k o i, zgL z' k o i = zgL z k o i) (hQ : ∀ k o i, zgQ z' k o i = zgQ z k o i) : zAgr M z z' := ⟨h, fun k o i _ => ⟨hA k o i, hL k o i, hQ k o i⟩⟩
theorem zAgr_dk {M e : Nat} {z z' : St} (h : zDk e z z') (h2 : nB M 2) (h3 : nB M 3) (h4 : nB M 4) (h6 : nB M 6) (h10 : nB M 10) (h11 : M.testBit (64 * 11 + 8) = false) (hA : M.testBit (1180 + 120) = false ∧ M.testBit (1180 + 121) = false ∧ M.testBit (1180 + 124) = false) : zAgr M z z' := by
  obtain ⟨a1, a2, a3, a4, -⟩ := h
  refine ⟨fun k j o hk hj c => a1 k j o ?_ ?_, fun k o i c => ⟨a2 k o i ?_, a3 k o i, a4 k o i⟩⟩
  · rintro ⟨rfl | rfl | rfl | rfl | rfl, -⟩
    · exact nB_no h2 hj c
    · exact nB_no h3 hj c
    · exact nB_no h4 hj c
    · exact nB_no h6 hj c
    · exact nB_no h10 hj c
  · rintro ⟨rfl, rfl⟩; rw [h11] at c; cases c
  · rintro ⟨rfl | rfl | rfl, -⟩
    · rw [hA.1] at c; cases c
    · rw [hA.2.1] at c; cases c
    · rw [hA.2.2] at c; cases c
theorem zPcS_cg {z z' : St} {b ord : Nat} {L : List Pe} (h9 : zgI z' 1 9 b = zgI z 1 9 b) (h118 : ∀ i, zgA z' 118 b i = zgA z 118 b i) (h117 : ∀ i, zgA z' 117 b i = zgA z 117 b i) (h116 : ∀ o i, 4 * b ≤ o → o < 4 * b + 4 → zgL z' 116 o i = zgL z 116 o i) (hK : ∀ u, 515 + 4 * b ≤ u → u < 519 + 4 * b → (∀ j, j < 15 → zgI z' 7 j u = zgI z 7 j u) ∧ ∀ i, zgA z' 125 u i = zgA z 125 u i) (h : zPcS z b L ord) : zPcS z' b L ord := by
  obtain ⟨⟨a1, a2, a3⟩, ⟨os, a4, a5⟩, a6⟩ := h
  refine ⟨⟨a1, a2, h9.trans a3⟩, ⟨os, fun i hi => ⟨(h118 i).trans (a4 i hi).1, (a4 i hi).2⟩, a5⟩, fun e he => ?_⟩
  have := a2 e he
  obtain ⟨k1, k2⟩ := hK (515 + 4 * b + pes e) (by omega) (by omega)
  exact zPec_keep (fun j hj _ => k1 j (by omega)) k2 (fun i => h116 _ i (by omega) (by omega)) (h117 _) (a6 e he)
theorem zPem_k6 {w w' : St} {e : Pe} (h1 : ∀ j, j < 6 → zgI w' 17 j (pep e) = zgI w 17 j (pep e)) (h2 : ∀ u, zgA w' 166 (pep e) u = zgA w 166 (pep e) u) (h : zPem w e) : zPem w' e := ⟨fun j hj => (h1 j (by omega)).trans (h.1 j hj), (h1 4 (by omega)).trans h.2.1, (h1 5 (by omega)).trans h.2.2.1, fun u hu => (h2 u).trans (h.2.2.2 u hu)⟩
theorem zPmS_cg {w w' : St} {b : Nat} {L : List Pe} (h11 : zgI w' 12 11 b = zgI w 12 11 b) (hQ : ∀ k, zgQ w' 148 b k = zgQ w 148 b k) (hI : ∀ o j, 4 * b ≤ o → o < 4 * b + 4 → j < 6 → zgI w' 17 j o = zgI w 17 j o) (hA : ∀ o i, 4 * b ≤ o → o < 4 * b + 4 → zgA w' 166 o i = zgA w 166 o i) (h : zPmS w b L) : zPmS w' b L := by
  obtain ⟨⟨a1, a2⟩, ⟨rest, a3, a4, a5, a6⟩, a7⟩ := h
  refine ⟨⟨a1, h11.trans a2⟩, ⟨rest, a3, a4, a5, fun k x hx => (hQ k).trans (a6 k x hx)⟩, fun e he => ?_⟩
  obtain ⟨y1, y2⟩ := a5 (pep e) (List.mem_append_left _ (List.mem_map.mpr ⟨e, he, rfl⟩))
  exact zPem_k6 (fun j hj => hI _ j y1 y2 hj) (fun u => hA _ u y1 y2) (a7 e he)
theorem zPp_cg {z z' w w' : St} {T : Tp} {E : Ev} {R R' : Rg} {b ord : Nat} {L : List Pe} (hR : ∀ c n v, R c n = some v → R' c n = some v) (h1 : zPcS z b L ord → zPcS z' b L ord) (h2 : zPmS w b L → zPmS w' b L) (h : zPp z w T E R b L ord) : zPp z' w' T E R' b L ord := by
  obtain ⟨a1, a2, a3, a4⟩ := h
  refine ⟨h1 a1, h2 a2, fun e he => ?_, a4⟩
  obtain ⟨b1, ⟨D0, b2, b3⟩, b4⟩ := a3 e he
  exact ⟨b1, ⟨D0, zPd_mono hR b2, b3⟩, b4⟩
def mPpC : Nat := 0x7000000000000000000000000000000000000000000000000000000000000000000000000000000000000000000000000000000000000000000000000000000000000000000000000000000000000000000000000000000000000000000000000000000000000000000000000000000000000000000000000000000000000000000000000000000000000000000000000000000000000000002000000000000000000
def mPpM : Nat := 0x4000100000000000000000000000000000000000000000000000000000000003f00000000000000000000000000000000000000000000000000000000000000000000000000000800000000000000000000000000000000000000000000000000000000000000000000000000000000000000000000000000000000000000000000000000000000000000000000000000000000000000000000000000000000000000000000000000
theorem zPp_a {z z' w w' : St} {T : Tp} {E : Ev} {R R' : Rg} {b ord : Nat} {L : List Pe} (hb : b < 16) (qc : zAgr mPpC z z') (ks : zKs z z') (qm : zAgr mPpM w w') (hR : ∀ c n v, R c n = some v → R' c n = some v) (h : zPp z w T E R b L ord) : zPp z' w' T E R' b L ord :=
  zPp_cg hR (zPcS_cg (zAgr_I qc 1 9 (by decide) (by decide) (by decide) b) (fun i => zAgr_A qc 118 (by decide) b i) (fun i => zAgr_A qc 117 (by decide) b i) (fun o i _ _ => zAgr_L qc 116 (by decide) o i) (fun u u1 u2 => ks u (by omega) (by omega))) (zPmS_cg (zAgr_I qm 12 11 (by decide) (by decide) (by decide) b) (fun k => zAgr_Q qm 148 (by decide) b k) (fun o j _ _ hj => by
    obtain rfl | rfl | rfl | rfl | rfl | rfl : j = 0 ∨ j = 1 ∨ j = 2 ∨ j = 3 ∨ j = 4 ∨ j = 5 := by omega
    all_goals exact qm.1 17 _ o (by decide) (by decide) (by decide)) (fun o i _ _ => zAgr_A qm 166 (by decide) o i)) h
def mRC : Nat := 0x7f8000001700000000000000000000000000000000000000000000000000000000000000000000000000000000000000000000000000000000000000000000000000000000000000000000004000000000000000000000000000000fff000000000000002000000000000000000000000000000000000000000000000000000000000000000000000000000000000000000000000000000000000000000000000000000380
def mRM : Nat := 0x4000c07e0000000000000000000000000000000000000000003000000000000000000000000000000000000000000000000f000000000000000000000000000000000000000001c72000000000000000000000000000000000000000000000000000000000000000000000000000000000000000000000000000000000000000000000000000000000000000000000000000000000000000000000000000000000000000000000000000
theorem zRml_a {w w' : St} {T : Tp} {c : Nat} {s : Rs} (q : zAgr mRM w w') (hR : zRml w T c s) : zRml w' T c s := by
  obtain ⟨⟨ids, a1⟩, a2, a3, a4, a5, a6⟩ := hR
  refine ⟨⟨ids, zRmI_cg (q.1 12 13 c (by decide) (by decide) (by decide)) (fun i => zAgr_Q q 149 (by decide) c i) (fun x x1 x2 => ⟨fun j hj => ?_, fun k i hk => ?_⟩) a1⟩, zRmT_cg (q.1 12 22 c (by decide) (by decide) (by decide)) (fun k i hk => ?_) a2, zRmB_cg (fun k i hk => ?_) (fun x r r16 hx e k hk => zAgr_A q 178 (by decide) 0 _) a3, (q.1 12 16 c (by decide) (by decide) (by decide)).trans a4, (q.1 12 17 c (by decide) (by decide) (by decide)).trans a5, (q.1 12 18 c (by decide) (by decide) (by decide)).trans a6⟩
  · obtain rfl | rfl | rfl | rfl : j = 0 ∨ j = 1 ∨ j = 2 ∨ j = 3 := by omega
    all_goals exact q.1 15 _ x (by decide) (by decide) (by decide)
  · rcases hk with rfl | rfl <;> exact zAgr_A q _ (by decide) x i
  · rcases hk with rfl | rfl | rfl <;> exact zAgr_A q _ (by decide) c i
  · rcases hk with rfl | rfl <;> exact zAgr_A q _ (by decide) c i
/-- routers stay -/
theorem zOtC_a {z z' : St} (q : zAgr mRC z z') : zOtC 99 z z' := fun c _ => by
  refine ⟨fun s hR => zRcl_cg (fun j hj => ?_) (fun j hj => ?_) (fun k o i hk => ?_) hR, q.1 9 10 c (by decide) (by decide) (by decide), q.1 9 11 c (by decide) (by decide) (by decide), q.1 0 9 c (by decide) (by decide) (by decide), q.1 11 6 0 (by decide) (by decide) (by decide)⟩
  · have t : ∀ j, j < 10 → mRC.testBit (64 * 9 + j) = true := by decide
    exact q.1 9 j c (by decide) (by omega) (t j hj)
  · rcases hj with rfl | rfl <;> exact q.1 0 _ c (by decide) (by decide) (by decide)
  · have t : ∀ k, k < 139 → ((100 ≤ k ∧ k ≤ 104 ∧ k ≠ 103) ∨ (131 ≤ k ∧ k ≤ 138)) → mRC.testBit (1180 + k) = true := by decide
    exact zAgr_A q k (t k (by omega) hk) o i
theorem zOtM_a {w w' : St} {T : Tp} (q : zAgr mRM w w') : zOtM T 99 w w' := fun c _ _ _ => ⟨fun s hR => zRml_a q hR, q.1 12 23 c (by decide) (by decide) (by decide), q.1 12 24 c (by decide) (by decide) (by decide), fun j _ => q.1 18 5 _ (by decide) (by decide) (by decide)⟩
/-- all routers; their adverts' numbers Nm -/
def zWa (z w : St) (T : Tp) (E : Ev) (tl Nm : Nat → Nat) (V : Wyt) (S : Nat → Rs) : Prop := zTlC z T tl ∧ zTlM w T tl ∧ ∀ b, b < tb T → tr T b = true → zRx z w T E tl Nm V b (S b)
theorem zWa_a {z z' w w' : St} {T : Tp} {E : Ev} {tl Nm : Nat → Nat} {V : Wyt} {S : Nat → Rs} (hc : zTc T) (qc : zAgr mRC z z') (qm : zAgr mRM w w') (h : zWa z w T E tl Nm V S) : zWa z' w' T E tl Nm V S := by
  refine ⟨fun p hp => ⟨(qc.1 8 5 p (by decide) (by decide) (by decide)).trans (h.1 p hp).1, (h.1 p hp).2⟩, fun p hp => ⟨(qm.1 18 4 p (by decide) (by decide) (by decide)).trans (h.2.1 p hp).1, (h.2.1 p hp).2⟩, fun b hb hr => ?_⟩
  have b16 : b < 16 := Nat.lt_of_lt_of_le hb hc.1
  exact zRx_ot (zOtC_a qc) (zOtM_a qm) (by omega) hb hr (fun _ => rfl) (fun _ => Nat.le_refl _) (h.2.2 b hb hr)
/-- all boxes' pieces -/
def zWp (z w : St) (T : Tp) (E : Ev) (R : Rg) (Lp : Nat → List Pe) (od : Nat → Nat) : Prop := ∀ b, b < tb T → zPp z w T E R b (Lp b) (od b)
theorem zWp_a {z z' w w' : St} {T : Tp} {E : Ev} {R R' : Rg} {Lp : Nat → List Pe} {od : Nat → Nat} (hc : zTc T) (qc : zAgr mPpC z z') (ks : zKs z z') (qm : zAgr mPpM w w') (hR : ∀ c n v, R c n = some v → R' c n = some v) (h : zWp z w T E R Lp od) : zWp z' w' T E R' Lp od := fun b hb => zPp_a (Nat.lt_of_lt_of_le hb hc.1) qc ks qm hR (h b hb)
/-- what is alike on both sides and nobody's: arrivals of nets, doors that listen, strays, own port numbers given -/
def zMs (z w : St) (T : Tp) : Prop := (∀ n, zgI z 5 10 n = zgI w 16 9 n) ∧ (∀ e, hEnd T e → zgI z 2 0 e = 1 → ∃ m, 1 ≤ m ∧ m ≤ 5 ∧ zgI z 2 4 e = Int32.ofNat m) ∧ zgI z 11 8 0 = zgI w 19 26 0 ∧ ∀ b, b < tb T → zgI z 1 12 b = zgI w 12 29 b
def mMsC : Nat := 0x10000000000000000000000000000000000000000000000000000000000000000000000000000000000000000000000040000000000000000000000000000000000000000000000001100000000000010000000000000000000
def mMsM : Nat := 0x40000000000000000000000000000000000000000000000000002000000000000000000000000000000000000000000000000000000000020000000000000000000000000000000000000000000000000000000000000000000000000000000000000000000000000000000000000000000000000000000000000000000000000000000000000000000000000000000000000000000000000000000
theorem zMs_a {z z' w w' : St} {T : Tp} (qc : zAgr mMsC z z') (qm : zAgr mMsM w w') (h : zMs z w T) : zMs z' w' T := by
  refine ⟨fun n => ?_, fun e he => ?_, ?_, fun b hb => ?_⟩
  · rw [qc.1 5 10 n (by decide) (by decide) (by decide), qm.1 16 9 n (by decide) (by decide) (by decide)]; exact h.1 n
  · rw [qc.1 2 0 e (by decide) (by decide) (by decide), qc.1 2 4 e (by decide) (by decide) (by decide)]; exact h.2.1 e he
  · rw [qc.1 11 8 0 (by decide) (by decide) (by decide), qm.1 19 26 0 (by decide) (by decide) (by decide)]; exact h.2.2.1
  · rw [qc.1 1 12 b (by decide) (by decide) (by decide), qm.1 12 29 b (by decide) (by decide) (by decide)]; exact h.2.2.2 b hb
