/-! a segment is made: the class's parcel, the model's segment -/
theorem vp_be (v : Int32) : vp_nar .byte v = be v := by
  unfold vp_nar narrow be
  rfl
/-- what the class has made, but for its ports -/
def zMdC (y : St) (V : Sv) : Prop := (zgI y 7 2 0 = 1 ∧ zgI y 7 4 0 = 64 ∧ zgI y 7 5 0 = 0 ∧ zgI y 7 9 0 = 0 ∧ zgI y 7 10 0 = 0 ∧ zgI y 7 6 0 = Int32.ofNat (20 + vgM V) ∧ zgI y 7 7 0 = Int32.ofNat (20 + vgM V)) ∧ (g2 (zgA y 125 0) 12 = vgF V ∧ g4 (zgA y 125 0) 4 = vgN V ∧ g4 (zgA y 125 0) 8 = vgT V ∧ g2 (zgA y 125 0) 14 = vgW V ∧ g2 (zgA y 125 0) 16 = vgL V) ∧ vgM V ≤ 1460 ∧ ∀ i, i < vgM V → zgA y 125 0 (20 + i) = vgB V i
/-- end e, what is being made, and the tally of what box b made change -/
def zEk (e b : Nat) (z z' : St) : Prop := (∀ k j o, ¬ ((k = 3 ∨ k = 4 ∨ k = 6 ∨ k = 10) ∧ o = e) → ¬ (k = 7 ∧ (j < 8 ∨ j = 9 ∨ j = 10) ∧ o = 0) → zgI z' k j o = zgI z k j o) ∧ (∀ k o i, ¬ ((k = 120 ∨ k = 121 ∨ k = 124) ∧ o = e) → ¬ (k = 125 ∧ o = 0) → ¬ (k = 113 ∧ o = b ∧ i = 2) → zgA z' k o i = zgA z k o i) ∧ (∀ k o i, zgL z' k o i = zgL z k o i) ∧ (∀ k o i, zgQ z' k o i = zgQ z k o i) ∧ ∀ k o i, zgR z' k o i = zgR z k o i
theorem zEk_tr {e b : Nat} {x y z : St} (h1 : zEk e b x y) (h2 : zEk e b y z) : zEk e b x z := ⟨fun k j o n m => (h2.1 k j o n m).trans (h1.1 k j o n m), fun k o i n m p => (h2.2.1 k o i n m p).trans (h1.2.1 k o i n m p), fun k o i => (h2.2.2.1 k o i).trans (h1.2.2.1 k o i), fun k o i => (h2.2.2.2.1 k o i).trans (h1.2.2.2.1 k o i), fun k o i => (h2.2.2.2.2 k o i).trans (h1.2.2.2.2 k o i)⟩
theorem zEk_c {e b : Nat} {z z' : St} (h : zEc1 e z z') : zEk e b z z' := ⟨fun k j o n _ => h.1 k j o n, fun k o i n _ _ => h.2.1 k o i n, h.2.2.1, h.2.2.2.1, h.2.2.2.2⟩
theorem zEk_d {e b : Nat} {z z' : St} (h : zKd b z z') : zEk e b z z' := ⟨fun k j o _ n => h.1 k j o n, fun k o i _ n m => h.2.1 k o i n m, h.2.2.1, h.2.2.2.1, h.2.2.2.2⟩
theorem zMdC_cg {y y' : St} {V : Sv} (hI : ∀ j, j = 2 ∨ (4 ≤ j ∧ j ≤ 10) → zgI y' 7 j 0 = zgI y 7 j 0) (hA : ∀ i, 4 ≤ i → zgA y' 125 0 i = zgA y 125 0 i) (h : zMdC y V) : zMdC y' V := by
  obtain ⟨⟨a1, a2, a3, a4, a5, a6, a7⟩, ⟨b1, b2, b3, b4, b5⟩, c, d⟩ := h
  have e2 : ∀ i, 4 ≤ i → g2 (zgA y' 125 0) i = g2 (zgA y 125 0) i := fun i hi => by unfold g2; rw [hA i hi, hA (i + 1) (by omega)]
  have e4 : ∀ i, 4 ≤ i → g4 (zgA y' 125 0) i = g4 (zgA y 125 0) i := fun i hi => by unfold g4; rw [e2 i hi, e2 (i + 2) (by omega)]
  refine ⟨⟨(hI 2 (by omega)).trans a1, (hI 4 (by omega)).trans a2, (hI 5 (by omega)).trans a3, (hI 9 (by omega)).trans a4, (hI 10 (by omega)).trans a5, (hI 6 (by omega)).trans a6, (hI 7 (by omega)).trans a7⟩, ⟨(e2 12 (by omega)).trans b1, (e4 4 (by omega)).trans b2, (e4 8 (by omega)).trans b3, (e2 14 (by omega)).trans b4, (e2 16 (by omega)).trans b5⟩, c, fun i hi => (hA (20 + i) (by omega)).trans (d i hi)⟩
theorem zMdC_ec {e : Nat} {y y' : St} {V : Sv} (c : zEc1 e y y') (h : zMdC y V) : zMdC y' V := zMdC_cg (fun j _ => c.1 7 j 0 (by omega)) (fun i _ => c.2.1 125 0 i (by omega)) h
theorem zc_beginSeg {z : St} {b N : Nat} {fl nu th wi : Int32} (hN : 4 < N) (hf : fl &&& (65535 : Int32) = fl) (hw : wi &&& (65535 : Int32) = wi) (Bt : Nat → Int32) : ∃ z', fX7_beginSegment N 0 fl nu th wi z = some (0, z') ∧ zMdC z' (fl, nu, th, wi, 0, 0, Bt) ∧ zKd b z z' ∧ (∀ k o i, ¬ (k = 125 ∧ o = 0) → zgA z' k o i = zgA z k o i) := by
  obtain ⟨z1, hz1⟩ : ∃ y, y = zBg z 0 1 20 := ⟨_, rfl⟩
  obtain ⟨B, hB⟩ : ∃ B, B = p2 (p2 (p2 (p4 (p4 (zgA z1 125 0) 4 nu) 8 th) 12 fl) 14 wi) 16 0 := ⟨_, rfl⟩
  refine ⟨zsC z1 125 0 B, ?_, ⟨?_, ?_, by show 0 ≤ 1460; decide, fun i hi => absurd hi (by show ¬ i < 0; omega)⟩, zKd_tr (by rw [hz1]; exact zKd_Bg) zKd_C, fun k o i q => ?_⟩
  · unfold fX7_beginSegment
    have r4 : ∀ (u : St) (v : Int32), fX7_put4 N 0 4 v u = some (0, zsC u 125 0 (p4 (zgA u 125 0) 4 v)) := fun u v => zc_put4 (i := 4) (by omega) hN
    have r8 : ∀ (u : St) (v : Int32), fX7_put4 N 0 8 v u = some (0, zsC u 125 0 (p4 (zgA u 125 0) 8 v)) := fun u v => zc_put4 (i := 8) (by omega) hN
    have r12 : ∀ (u : St) (v : Int32), fX7_put2 N 0 12 v u = some (0, zsC u 125 0 (p2 (zgA u 125 0) 12 v)) := fun u v => zc_put2 (i := 12) (by omega)
    have r14 : ∀ (u : St) (v : Int32), fX7_put2 N 0 14 v u = some (0, zsC u 125 0 (p2 (zgA u 125 0) 14 v)) := fun u v => zc_put2 (i := 14) (by omega)
    have r16 : ∀ (u : St) (v : Int32), fX7_put2 N 0 16 v u = some (0, zsC u 125 0 (p2 (zgA u 125 0) 16 v)) := fun u v => zc_put2 (i := 16) (by omega)
    rw [zc_begin0, zc_e, ← hz1, r4, zc_e, r8, zc_e, zsC_C, zgA_sCs, r12, zc_e, zsC_C, zgA_sCs, r14, zc_e, zsC_C, zgA_sCs, r16, zc_e, zsC_C, zgA_sCs, ← hB]
  · have q : ∀ j, zgI (zsC z1 125 0 B) 7 j 0 = zgI z1 7 j 0 := fun j => rfl
    rw [q, q, q, q, q, q, q, hz1, zBg_I, zBg_I, zBg_I, zBg_I, zBg_I, zBg_I, zBg_I]
    exact ⟨rfl, rfl, rfl, rfl, rfl, rfl, rfl⟩
  · rw [zgA_sCs, hB]
    refine ⟨?_, ?_, ?_, ?_, ?_⟩
    · rw [g2_o2 _ _ (by omega), g2_o2 _ _ (by omega), g2_p2]; exact hf
    · rw [g4_o2 _ _ (by omega), g4_o2 _ _ (by omega), g4_o2 _ _ (by omega), g4_o4 _ _ (by omega), g4_p4]; rfl
    · rw [g4_o2 _ _ (by omega), g4_o2 _ _ (by omega), g4_o2 _ _ (by omega), g4_p4]; rfl
    · rw [g2_o2 _ _ (by omega), g2_p2]; exact hw
    · rw [g2_p2]; rfl
  · rw [zgA_sC, if_neg q, hz1]; rfl
/-- bytes of an end's row are laid into the parcel -/
theorem zc_putL {e st f m N : Nat} (hst : st < 2048) (hf : f ≤ 2048) (hm : m ≤ 1460) : ∀ (n i nn : Nat) (z : St), i + n = m → n < nn → zgI z 6 1 e = Int32.ofNat st → ∃ z', fX6_putBytes_16 N nn e 0 (Int32.ofNat f) (Int32.ofNat m) (Int32.ofNat i) z = some (0, z') ∧ (∀ k o j, zgA z' k o j = if k = 125 ∧ o = 0 ∧ 20 + i ≤ j ∧ j < 20 + m then be (zgA z 124 e ((st + f + (j - 20)) % 2048)) else zgA z k o j) ∧ (∀ k j o, zgI z' k j o = if k = 7 ∧ (j = 6 ∨ j = 7) ∧ o = 0 then Int32.ofNat (20 + m) else zgI z k j o) ∧ (∀ k o i, zgL z' k o i = zgL z k o i) ∧ (∀ k o i, zgQ z' k o i = zgQ z k o i) ∧ ∀ k o i, zgR z' k o i = zgR z k o i := by
  intro n
  induction n with
  | zero =>
    intro i nn z h1 h2 h3
    obtain ⟨nn, rfl⟩ : ∃ k, nn = k + 1 := ⟨nn - 1, by omega⟩
    have e1 : i = m := by omega
    subst e1
    refine ⟨zsI (zsI z 7 6 0 (Int32.ofNat (20 + i))) 7 7 0 (Int32.ofNat (20 + i)), ?_, fun k o j => ?_, fun k j o => ?_, fun _ _ _ => rfl, fun _ _ _ => rfl, fun _ _ _ => rfl⟩
    · show fX6_putBytes_16b N _ e 0 _ _ _ z = _
      unfold fX6_putBytes_16b fX7_setLength
      rw [if_pos (Int32.le_refl _), show (20 : Int32) + Int32.ofNat i = Int32.ofNat (20 + i) from zo_add 20 i, zl_e, zl_e, zc_e]
    · rw [if_neg (by omega)]; rfl
    · rw [zgI_sI, zgI_sI]
      by_cases c : k = 7 ∧ (j = 6 ∨ j = 7) ∧ o = 0
      · rw [if_pos c]
        obtain ⟨rfl, hj, rfl⟩ := c
        rcases hj with rfl | rfl <;> simp
      · rw [if_neg c, if_neg (by omega), if_neg (by omega)]
  | succ n ih =>
    intro i nn z h1 h2 h3
    obtain ⟨nn, rfl⟩ : ∃ k, nn = k + 1 := ⟨nn - 1, by omega⟩
    obtain ⟨z', g1, g2, g3, g4, g5, g6⟩ := ih (i + 1) nn (zsA z 125 0 (20 + i) (be (zgA z 124 e ((st + f + i) % 2048)))) (by omega) (by omega) h3
    refine ⟨z', ?_, fun k o j => ?_, fun k j o => (g3 k j o).trans rfl, fun k o i => (g4 k o i).trans rfl, fun k o i => (g5 k o i).trans rfl, fun k o i => (g6 k o i).trans rfl⟩
    · show fX6_putBytes_16b N _ e 0 _ _ _ z = _
      unfold fX6_putBytes_16b
      have ix : (((zgI z 6 1 e) + Int32.ofNat f) + Int32.ofNat i) &&& (2047 : Int32) = Int32.ofNat ((st + f + i) % 2048) := by
        rw [h3, zo_add, zo_add, zand_o, zun_of (by omega)]
      rw [if_neg (by rw [zo_le (by omega) (by omega)]; omega), ix, zkk (Nat.mod_lt _ (by decide)) (by omega), zoC (by have := Nat.mod_lt (st + f + i) (show 0 < 2048 by decide); omega), show (20 : Int32) + Int32.ofNat i = Int32.ofNat (20 + i) from zo_add 20 i, zkk (by omega) (by omega), zoC (by omega), vp_be, zl_e, zo_i1, zl_e]
      exact g1
    · rw [g2]
      have a24 : ∀ u, zgA (zsA z 125 0 (20 + i) (be (zgA z 124 e ((st + f + i) % 2048)))) 124 e u = zgA z 124 e u := fun u => by rw [zgA_sA, if_neg (by omega)]
      rw [a24]
      by_cases c : k = 125 ∧ o = 0 ∧ 20 + i ≤ j ∧ j < 20 + m
      · rw [if_pos c]
        by_cases d : j = 20 + i
        · rw [if_neg (by omega), zgA_sA, if_pos ⟨c.1, c.2.1, d⟩, show j - 20 = i from by omega]
        · rw [if_pos (by omega)]
      · rw [if_neg c, if_neg (by omega), zgA_sA, if_neg (by omega)]
theorem zc_makeBytes {z : St} {e b st f m R N : Nat} {num : Int32} (last : Bool) (h16 : zgR z 3 16 e = some e) (h17 : zgR z 3 17 e = some e) (hst : st < 2048) (hf : f ≤ 2048) (hm : m ≤ 1460) (h61 : zgI z 6 1 e = Int32.ofNat st) (hR : R ≤ 2048) (h43 : zgI z 4 3 e = Int32.ofNat R) (hN : 1500 < N) : ∃ z', fX3_makeBytes N e 0 num (Int32.ofNat f) (Int32.ofNat m) (zbi last) z = some (0, z') ∧ zMdC z' (if last = true then 10 else 8, num, zgI z 4 4 e, Int32.ofNat (2048 - R), 0, m, fun i => be (zgA z 124 e ((st + f + i) % 2048))) ∧ (∀ k j o, ¬ (k = 7 ∧ (j < 8 ∨ j = 9 ∨ j = 10) ∧ o = 0) → zgI z' k j o = if k = 3 ∧ j = 13 ∧ o = e then 0 else zgI z k j o) ∧ (∀ k o i, ¬ (k = 125 ∧ o = 0) → zgA z' k o i = zgA z k o i) ∧ zEk e b z z' := by
  have rm : fX4_room N e z = some (Int32.ofNat (2048 - R), z) := by
    unfold fX4_room
    rw [h43, show (2048 : Int32) = Int32.ofNat 2048 from rfl, zo_sub hR]
  obtain ⟨fl, hfl⟩ : ∃ u : Int32, u = if last = true then 10 else 8 := ⟨_, rfl⟩
  have ffl : fl &&& (65535 : Int32) = fl := by rw [hfl]; cases last <;> decide
  obtain ⟨z1, u1, u2, u3, u4⟩ := zc_beginSeg (z := z) (b := b) (N := N) (fl := fl) (nu := num) (th := zgI z 4 4 e) (wi := Int32.ofNat (2048 - R)) (by omega) ffl (zof_and (by omega)) (fun i => be (zgA z 124 e ((st + f + i) % 2048)))
  have I1 : ∀ k j o, ¬ (k = 7 ∧ (j < 8 ∨ j = 9 ∨ j = 10) ∧ o = 0) → zgI z1 k j o = zgI z k j o := u3.1
  obtain ⟨z2, k1, k2, k3, k4, k5, k6⟩ := zc_putL (e := e) (N := N) hst hf hm m 0 N z1 (by omega) (by omega) ((I1 6 1 e (by omega)).trans h61)
  have run13 : fX3_makeBytes_13 N e 0 num (Int32.ofNat f) (Int32.ofNat m) 0 fl z = some (0, zsI z2 3 13 e 0) := by
    unfold fX3_makeBytes_13
    have pb : fX6_putBytes N e 0 (Int32.ofNat f) (Int32.ofNat m) z1 = some (0, z2) := by
      unfold fX6_putBytes
      have mm : (if (1460 : Int32) < Int32.ofNat m then (1460 : Int32) else Int32.ofNat m) = Int32.ofNat m := by
        rw [if_neg (show ¬ (1460 : Int32) < Int32.ofNat m from by rw [show (1460 : Int32) = Int32.ofNat 1460 from rfl, zo_lt (by omega) (by omega)]; omega)]
      rw [mm, zmax0_of (by omega), zl_e]
      exact k1
    rw [h17, zl_e, zd_e, zl_e, zd_e, rm, zc_e, u1, zc_e, u3.2.2.2.2 3 16 e, h16, zl_e, zd_e, pb, zc_e, zl_e]
  refine ⟨zsI z2 3 13 e 0, ?_, ?_, fun k j o q => ?_, fun k o i q => ?_, ?_⟩
  · unfold fX3_makeBytes
    cases last
    · rw [if_pos (show zbi false = 0 by decide)]; rw [hfl] at run13; exact run13
    · rw [if_neg (show ¬ zbi true = 0 by decide)]; rw [hfl] at run13; exact run13
  · rw [← hfl]
    obtain ⟨⟨a1, a2, a3, a4, a5, a6, a7⟩, ⟨b1, b2, b3, b4, b5⟩, -, -⟩ := u2
    have I : ∀ j, zgI (zsI z2 3 13 e 0) 7 j 0 = if j = 6 ∨ j = 7 then Int32.ofNat (20 + m) else zgI z1 7 j 0 := fun j => by
      rw [zgI_sI, if_neg (by omega), k3]
      by_cases c : j = 6 ∨ j = 7
      · rw [if_pos c, if_pos ⟨rfl, c, rfl⟩]
      · rw [if_neg c, if_neg (fun y => c y.2.1)]
    have A : ∀ j, zgA (zsI z2 3 13 e 0) 125 0 j = if 20 ≤ j ∧ j < 20 + m then be (zgA z 124 e ((st + f + (j - 20)) % 2048)) else zgA z1 125 0 j := fun j => by
      show zgA z2 125 0 j = _
      rw [k2, u4 124 e _ (by omega)]
      by_cases c : 20 ≤ j ∧ j < 20 + m
      · rw [if_pos c, if_pos ⟨rfl, rfl, by omega, c.2⟩]
      · rw [if_neg c, if_neg (by omega)]
    have e2 : ∀ i, i + 2 ≤ 20 → g2 (zgA (zsI z2 3 13 e 0) 125 0) i = g2 (zgA z1 125 0) i := fun i hi => by unfold g2; rw [A, A, if_neg (by omega), if_neg (by omega)]
    have e4 : ∀ i, i + 4 ≤ 20 → g4 (zgA (zsI z2 3 13 e 0) 125 0) i = g4 (zgA z1 125 0) i := fun i hi => by unfold g4; rw [e2 i (by omega), e2 (i + 2) (by omega)]
    refine ⟨⟨?_, ?_, ?_, ?_, ?_, ?_, ?_⟩, ⟨?_, ?_, ?_, ?_, ?_⟩, hm, fun i hi => ?_⟩
    · rw [I, if_neg (by omega)]; exact a1
    · rw [I, if_neg (by omega)]; exact a2
    · rw [I, if_neg (by omega)]; exact a3
    · rw [I, if_neg (by omega)]; exact a4
    · rw [I, if_neg (by omega)]; exact a5
    · rw [I, if_pos (by omega)]; rfl
    · rw [I, if_pos (by omega)]; rfl
    · rw [e2 12 (by omega)]; exact b1
    · rw [e4 4 (by omega)]; exact b2
    · rw [e4 8 (by omega)]; exact b3
    · rw [e2 14 (by omega)]; exact b4
    · rw [e2 16 (by omega)]; exact b5
    · have hi : i < m := hi
      rw [A, if_pos (by omega), show 20 + i - 20 = i from by omega]; rfl
  · rw [zgI_sI, k3]
    by_cases c : k = 3 ∧ j = 13 ∧ o = e
    · rw [if_pos c, if_pos c]
    · rw [if_neg c, if_neg c, if_neg (by omega)]; exact I1 k j o q
  · show zgA z2 k o i = _
    rw [k2, if_neg (by omega)]; exact u4 k o i q
  · refine ⟨fun k j o q1 q2 => ?_, fun k o i _ q _ => ?_, fun k o i => (k4 k o i).trans (u3.2.2.1 k o i), fun k o i => (k5 k o i).trans (u3.2.2.2.1 k o i), fun k o i => (k6 k o i).trans (u3.2.2.2.2 k o i)⟩
    · rw [zgI_sI, if_neg (by omega), k3, if_neg (by omega)]; exact I1 k j o q2
    · show zgA z2 k o i = _
      rw [k2, if_neg (by omega)]; exact u4 k o i q
