/-! a segment's head is read; what both sides see of it -/
/-- the segment that a datagram carries -/
def vOf (D : Dg) : Sv := (g2 D.2 12, g4 D.2 4, g4 D.2 8, g2 D.2 14, g2 D.2 16, dw D - 20, fun i => D.2 (20 + i))
theorem g2_cgr {p p' : Nat → Int32} {i : Nat} (h0 : p i = p' i) (h1 : p (i + 1) = p' (i + 1)) : g2 p i = g2 p' i := by unfold g2; rw [h0, h1]
theorem g4_cgr {p p' : Nat → Int32} {i : Nat} (h0 : p i = p' i) (h1 : p (i + 1) = p' (i + 1)) (h2 : p (i + 2) = p' (i + 2)) (h3 : p (i + 3) = p' (i + 3)) : g4 p i = g4 p' i := by unfold g4; rw [g2_cgr h0 h1, g2_cgr h2 h3]
/-- two bytes are no more than 65535 -/
theorem g2_nat (p : Nat → Int32) (i : Nat) : ∃ v : Nat, v ≤ 65535 ∧ g2 p i = Int32.ofNat v := by
  refine ⟨zal (g2 p i), by have := zal_lt (g2 p i); omega, ?_⟩
  rw [← zal_e, g2_and]
theorem zc_readHead {z : St} {x N : Nat} : ∃ z', fX7_readHead N x z = some (0, z') ∧ (∀ k j u, zgI z' k j u = if k = 7 ∧ u = x ∧ 15 ≤ j ∧ j ≤ 19 then (if j = 15 then g2 (zgA z 125 x) 12 else if j = 16 then g4 (zgA z 125 x) 4 else if j = 17 then g4 (zgA z 125 x) 8 else if j = 18 then g2 (zgA z 125 x) 14 else g2 (zgA z 125 x) 16) else zgI z k j u) ∧ (∀ k u i, zgA z' k u i = zgA z k u i) ∧ (∀ k u i, zgL z' k u i = zgL z k u i) ∧ (∀ k u i, zgQ z' k u i = zgQ z k u i) ∧ (∀ k u i, zgR z' k u i = zgR z k u i) := by
  refine ⟨zsI (zsI (zsI (zsI (zsI z 7 16 x (g4 (zgA z 125 x) 4)) 7 17 x (g4 (zgA z 125 x) 8)) 7 15 x (g2 (zgA z 125 x) 12)) 7 18 x (g2 (zgA z 125 x) 14)) 7 19 x (g2 (zgA z 125 x) 16), ?_, fun k j u => ?_, fun _ _ _ => rfl, fun _ _ _ => rfl, fun _ _ _ => rfl, fun _ _ _ => rfl⟩
  · unfold fX7_readHead
    rw [show (4 : Int32) = Int32.ofNat 4 from rfl, zc_get4 (by omega), zc_e, zl_e, show (8 : Int32) = Int32.ofNat 8 from rfl, zc_get4 (by omega), zc_e, zl_e, show (12 : Int32) = Int32.ofNat 12 from rfl, zc_get2 (by omega), zc_e, zl_e, show (14 : Int32) = Int32.ofNat 14 from rfl, zc_get2 (by omega), zc_e, zl_e, show (16 : Int32) = Int32.ofNat 16 from rfl, zc_get2 (by omega), zc_e, zl_e]
    rfl
  · simp only [zgI_sI]
    by_cases c : k = 7 ∧ u = x
    · obtain ⟨rfl, rfl⟩ := c
      by_cases hj : 15 ≤ j ∧ j ≤ 19
      · have : j = 15 ∨ j = 16 ∨ j = 17 ∨ j = 18 ∨ j = 19 := by omega
        rcases this with rfl | rfl | rfl | rfl | rfl <;> simp
      · rw [if_neg (by omega), if_neg (by omega), if_neg (by omega), if_neg (by omega), if_neg (by omega), if_neg (by omega)]
    · rw [if_neg (by omega), if_neg (by omega), if_neg (by omega), if_neg (by omega), if_neg (by omega), if_neg (by omega)]
/-- what is read of a parcel's head changes nothing else -/
theorem zIp_hd {z z' w : St} {T : Tp} {E : Ev} {gc gm : Sg} {Wy : Wyt} {R : Rg} {mk : Nat → Nat} {K : Int32 → Int32 → Int32 → Prop} {X XM TS TA TB : List Nat} {x : Nat} (hx : x = 0 ∨ (515 ≤ x ∧ x < 579) ∨ x ∈ X) (hI : ∀ k j u, ¬ (k = 7 ∧ u = x ∧ 15 ≤ j ∧ j ≤ 19) → zgI z' k j u = zgI z k j u) (hA : ∀ k u i, zgA z' k u i = zgA z k u i) (hL : ∀ k u i, zgL z' k u i = zgL z k u i) (hQ : ∀ k u i, zgQ z' k u i = zgQ z k u i) (hR : ∀ k u i, zgR z' k u i = zgR z k u i) (hp : zIp z w T E gc gm Wy R mk K X XM TS TA TB) : zIp z' w T E gc gm Wy R mk K X XM TS TA TB := by
  obtain ⟨⟨p1, p2, p3, p4, ⟨p5, p6, p7⟩, p8, p9, p10⟩, hRg, hW⟩ := hp
  have f : zFr 0xf80000000000000000000000000000000000000000000000000000000000000000000000000000000000000000000000000000000000000000000 z z' := by
    refine ⟨fun k j o hk hm => ⟨hI k j o ?_, hR k j o⟩, fun k o i _ => ⟨hA k o i, hL k o i, hQ k o i⟩⟩
    rintro ⟨rfl, -, h1, h2⟩
    have : j = 15 ∨ j = 16 ∨ j = 17 ∨ j = 18 ∨ j = 19 := by omega
    rcases this with rfl | rfl | rfl | rfl | rfl <;> revert hm <;> decide
  refine ⟨⟨zNC_cg f (by decide +kernel) (fun u h0 h1 h2 => ⟨fun j => hI 7 j u (fun y => ?_), fun i => hA 125 u i⟩) (fun c => hA 113 c 5) p1, p2, p3, p4, ⟨zWyc_fr f (by decide +kernel) p5, p6, p7⟩, zRE_fr f (by decide +kernel) (zFr_rf 0 w) (by decide) p8, fun c hc => ?_, (hI 11 15 0 (by omega)).trans p10⟩, zRg_same hRg (fun c => hA 113 c 2), hW⟩
  · obtain ⟨-, rfl, -, -⟩ := y
    rcases hx with y | y | y
    · exact h0 y
    · exact h1 y
    · exact h2 y
  · rw [hA 113 c 2, hA 113 c 3, hA 113 c 4, hA 113 c 6, hA 113 c 7]; exact p9 c hc
/-- what the class and the model see of a segment that came whole -/
theorem zSg_of {z z' w : St} {K : Int32 → Int32 → Int32 → Prop} {x s : Nat} {D D' : Dg} (hx : zPC 11 z x D) (hf : df D = 0) (hl : dl D = dw D) (hw : zDw D) (h20 : 20 ≤ dw D) (e2 : D'.2 = D.2) (ew : dw D' = dw D) (hs : s < 2400) (hm : zMS w K s D') (h7 : ∀ j u, zgI z' 7 j u = if u = x ∧ 15 ≤ j ∧ j ≤ 19 then (if j = 15 then g2 (zgA z 125 x) 12 else if j = 16 then g4 (zgA z 125 x) 4 else if j = 17 then g4 (zgA z 125 x) 8 else if j = 18 then g2 (zgA z 125 x) 14 else g2 (zgA z 125 x) 16) else zgI z 7 j u) (hA : ∀ u i, zgA z' 125 u i = zgA z 125 u i) : zSgC z' x (vOf D) ∧ zSgM w s (vOf D) := by
  have hb : ∀ i, i < dw D → zgA z 125 x i = D.2 i := fun i hi => by
    have := hx.2 i (by omega)
    rw [hf, Nat.zero_add] at this
    exact this
  obtain ⟨-, -, w7, -, w1480, -⟩ := hw
  have G2 : ∀ i, i + 2 ≤ 20 → g2 (zgA z 125 x) i = g2 D.2 i := fun i hi => g2_cgr (hb i (by omega)) (hb (i + 1) (by omega))
  have G4 : ∀ i, i + 4 ≤ 20 → g4 (zgA z 125 x) i = g4 D.2 i := fun i hi => g4_cgr (hb i (by omega)) (hb (i + 1) (by omega)) (hb (i + 2) (by omega)) (hb (i + 3) (by omega))
  obtain ⟨m0, m1, m2, m3, m4, m5, m6, m7, m8, m9, -⟩ := hm
  rw [e2] at m2 m3 m4 m5 m6
  rw [ew] at m7
  refine ⟨⟨⟨?_, ?_, ?_, ?_, ?_, ?_⟩, ?_, fun i hi => ?_⟩, hs, ⟨m2, m3, m4, m5, m6, m7⟩, ?_, fun i hi => ?_⟩
  · rw [h7, if_pos ⟨rfl, by omega, by omega⟩, if_pos rfl]; exact G2 12 (by omega)
  · rw [h7, if_pos ⟨rfl, by omega, by omega⟩, if_neg (by omega), if_pos rfl]; exact G4 4 (by omega)
  · rw [h7, if_pos ⟨rfl, by omega, by omega⟩, if_neg (by omega), if_neg (by omega), if_pos rfl]; exact G4 8 (by omega)
  · rw [h7, if_pos ⟨rfl, by omega, by omega⟩, if_neg (by omega), if_neg (by omega), if_neg (by omega), if_pos rfl]; exact G2 14 (by omega)
  · rw [h7, if_pos ⟨rfl, by omega, by omega⟩, if_neg (by omega), if_neg (by omega), if_neg (by omega), if_neg (by omega)]; exact G2 16 (by omega)
  · rw [h7, if_neg (by omega), hx.1 7 (by omega) (by omega), w7]
    congr 1
    show dw D = 20 + (dw D - 20)
    omega
  · show dw D - 20 ≤ 1460; omega
  · rw [hA]; exact hb (20 + i) (by have : i < dw D - 20 := hi; omega)
  · show dw D - 20 ≤ 1460; omega
  · have := m9 i (by rw [ew]; exact hi)
    rw [e2] at this; exact this
