/-! routers' turns: frames -/
def mSt : Nat := 0x7f8000003f00000000000000000000000000000000000000000000000000000000000000000000000000000000000000000000000000000000000000000000000000000000000000000000000000000000000000000000000000000e220000000000000000000000000000000000000000000000000000000000000000000000000000000000000000000000000000000000000000000000000000000000000000000003c0
/-- what a turn of router b may change, the class (but ways and what is sent) -/
def zTnC (b : Nat) (z z' : St) : Prop := (∀ k j o, ¬ (o = b ∧ ((k = 9 ∧ (j = 1 ∨ j = 5 ∨ j = 9 ∨ j = 10 ∨ j = 11)) ∨ (k = 0 ∧ (j = 6 ∨ j = 7 ∨ j = 8 ∨ j = 9)))) → zgI z' k j o = zgI z k j o) ∧ zKr b z z'
theorem zTnC_rf (b : Nat) (z : St) : zTnC b z z := ⟨fun _ _ _ _ => rfl, zKr_rf b z⟩
theorem zTnC_tr {b : Nat} {x y z : St} (h1 : zTnC b x y) (h2 : zTnC b y z) : zTnC b x z := ⟨fun k j o n => (h2.1 k j o n).trans (h1.1 k j o n), zKr_tr h1.2 h2.2⟩
theorem mSt_i : mSt.testBit (64 * 9 + 1) = true ∧ mSt.testBit (64 * 9 + 5) = true ∧ mSt.testBit (64 * 9 + 9) = true ∧ mSt.testBit (64 * 9 + 10) = true ∧ mSt.testBit (64 * 9 + 11) = true ∧ mSt.testBit (64 * 0 + 6) = true ∧ mSt.testBit (64 * 0 + 7) = true ∧ mSt.testBit (64 * 0 + 8) = true ∧ mSt.testBit (64 * 0 + 9) = true := by decide +kernel
theorem mSt_a : ∀ k, k < 139 → ((100 ≤ k ∧ k ≤ 105) ∨ (131 ≤ k ∧ k ≤ 138)) → mSt.testBit (1180 + k) = true := by decide +kernel
theorem zTnC_fr {b : Nat} {z z' : St} (h : zTnC b z z') : zFr mSt z z' := by
  obtain ⟨hI, -, hA, hL, hQ, hR⟩ := h
  obtain ⟨m1, m2, m3, m4, m5, m6, m7, m8, m9⟩ := mSt_i
  refine ⟨fun k j o _ hm => ⟨hI k j o ?_, hR k j o⟩, fun k o i hm => ⟨hA k o i ?_ ?_ ?_, hL k o i, hQ k o i⟩⟩
  · rintro ⟨-, ⟨rfl, rfl | rfl | rfl | rfl | rfl⟩ | ⟨rfl, rfl | rfl | rfl | rfl⟩⟩
    · rw [m1] at hm; cases hm
    · rw [m2] at hm; cases hm
    · rw [m3] at hm; cases hm
    · rw [m4] at hm; cases hm
    · rw [m5] at hm; cases hm
    · rw [m6] at hm; cases hm
    · rw [m7] at hm; cases hm
    · rw [m8] at hm; cases hm
    · rw [m9] at hm; cases hm
  · rintro ⟨rfl, -⟩
    rw [mSt_a 135 (by omega) (by omega)] at hm; cases hm
  · rintro ⟨rfl, -⟩
    rw [mSt_a 104 (by omega) (by omega)] at hm; cases hm
  · rintro ⟨-, -, -, y⟩
    rw [mSt_a k (by omega) y] at hm; cases hm
theorem zIp_tnC {b : Nat} {z z' w : St} {T : Tp} {E : Ev} {gc gm : Sg} {V : Wyt} {R : Rg} {mk : Nat → Nat} {K : Int32 → Int32 → Int32 → Prop} {X XM TS TA TB : List Nat} (h : zTnC b z z') (hp : zIp z w T E gc gm V R mk K X XM TS TA TB) : zIp z' w T E gc gm V R mk K X XM TS TA TB :=
  zIp_kr (zTnC_fr h) (by decide +kernel) (by decide +kernel) (by decide +kernel) (by decide +kernel) (fun j u => h.1 7 j u (by omega)) (fun k o i hk => h.2.2.1 k o i (by omega) (by omega) (by omega)) hp
theorem zTnC_T {b : Nat} {z z' : St} {T : Tp} (h : zTnC b z z') (hT : zTC z T) : zTC z' T := zTC_fr (zTnC_fr h) (by decide +kernel) hT
theorem zTnC_l {b : Nat} {z z' : St} {T : Tp} {tl : Nat → Nat} (h : zTnC b z z') (hl : zTlC z T tl) : zTlC z' T tl := fun p hp => ⟨(h.1 8 5 p (by omega)).trans (hl p hp).1, (hl p hp).2⟩
theorem zTnC_e {b : Nat} {z z' : St} {T : Tp} {E : Ev} (f : zTnC b z z') (h : zEc z T E) : zEc z' T E := ⟨(f.1 11 4 0 (by omega)).trans h.1, fun n hn => ⟨(f.1 5 1 n (by omega)).trans (h.2 n hn).1, (f.1 5 2 n (by omega)).trans (h.2 n hn).2.1, (f.1 5 3 n (by omega)).trans (h.2 n hn).2.2⟩⟩
/-- what a turn of router b may change, the model (but ways and what is sent) -/
def zTnM (w w' : St) : Prop := (∀ k j o, ¬ (k = 12 ∧ (j = 13 ∨ j = 16 ∨ j = 17 ∨ j = 18 ∨ j = 22 ∨ j = 23 ∨ j = 24)) → ¬ k = 15 → ¬ (k = 18 ∧ j = 5) → ¬ (k = 19 ∧ (j = 11 ∨ j = 27)) → zgI w' k j o = zgI w k j o) ∧ (∀ k o i, ¬ (k = 150 ∨ k = 151 ∨ k = 152 ∨ k = 153 ∨ k = 154) → ¬ (k = 162 ∨ k = 163) → ¬ (k = 178 ∨ k = 179 ∨ k = 180) → zgA w' k o i = zgA w k o i) ∧ (∀ k o i, zgL w' k o i = zgL w k o i) ∧ (∀ k o i, ¬ k = 149 → zgQ w' k o i = zgQ w k o i) ∧ ∀ k o i, zgR w' k o i = zgR w k o i
theorem zTnM_mr {b : Nat} {w w' : St} (h : zMr b w w') : zTnM w w' := ⟨fun k j o n1 n2 _ n4 => h.1 k j o (by omega) (by omega) (by omega), fun k o i n1 n2 n3 => h.2.1 k o i (by omega) (by omega) (by omega), h.2.2.1, fun k o i n => h.2.2.2.1 k o i (by omega), h.2.2.2.2⟩
/-- the model's side of a step of b's turn: the relation anew -/
theorem zIp_tnM {M : Nat} {z w w' : St} {T : Tp} {E : Ev} {gc gm : Sg} {V : Wyt} {R : Rg} {mk : Nat → Nat} {K : Int32 → Int32 → Int32 → Prop} {X XM TS TA TB TA' : List Nat} (f : zFr M w w') (hm2 : 0x38000000000000000000000000000000000000000000000000000000000000000000000000000000000000000000000000000000000000000000000000000000000000000000000000000000000000000000000000000000000000000000000000000000000000000000000000000000000000000000000000000000000000000000000000000000000000000000000000000000000000000000000000000000000000000000000 &&& M = 0) (hm3 : mREm &&& M = 0) (hm4 : 0x370000000000000000000000000000000000000000000000000000000000000000000000000000000000000000000000000000000000000000000000000000000000000000000000000000000000000000000000000000000000000000000000000 &&& M = 0) (hV : zMV w' T E gm K XM TS TA' TB) (hp : zIp z w T E gc gm V R mk K X XM TS TA TB) : zIp z w' T E gc gm V R mk K X XM TS TA' TB := by
  obtain ⟨⟨p1, p2, p3, p4, ⟨p5, p6, p7⟩, p8, p9, p10⟩, hR, hW⟩ := hp
  exact ⟨⟨p1, hV, p3, p4, ⟨p5, zWym_fr f hm2 p6, p7⟩, zRE_fr (zFr_rf 0 z) (by decide) f hm3 p8, zUt_keepM f hm4 p9, p10⟩, hR, hW⟩
theorem chk1 : (0x38000000000000000000000000000000000000000000000000000000000000000000000000000000000000000000000000000000000000000000000000000000000000000000000000000000000000000000000000000000000000000000000000000000000000000000000000000000000000000000000000000000000000000000000000000000000000000000000000000000000000000000000000000000000000000000000 &&& mX19_ownAdvert = 0 ∧ mREm &&& mX19_ownAdvert = 0 ∧ 0x370000000000000000000000000000000000000000000000000000000000000000000000000000000000000000000000000000000000000000000000000000000000000000000000000000000000000000000000000000000000000000000000000 &&& mX19_ownAdvert = 0) ∧ (0x38000000000000000000000000000000000000000000000000000000000000000000000000000000000000000000000000000000000000000000000000000000000000000000000000000000000000000000000000000000000000000000000000000000000000000000000000000000000000000000000000000000000000000000000000000000000000000000000000000000000000000000000000000000000000000000000 &&& mX19_base = 0 ∧ mREm &&& mX19_base = 0 ∧ 0x370000000000000000000000000000000000000000000000000000000000000000000000000000000000000000000000000000000000000000000000000000000000000000000000000000000000000000000000000000000000000000000000000 &&& mX19_base = 0) ∧ (0x38000000000000000000000000000000000000000000000000000000000000000000000000000000000000000000000000000000000000000000000000000000000000000000000000000000000000000000000000000000000000000000000000000000000000000000000000000000000000000000000000000000000000000000000000000000000000000000000000000000000000000000000000000000000000000000000 &&& mX19_neighbours = 0 ∧ mREm &&& mX19_neighbours = 0 ∧ 0x370000000000000000000000000000000000000000000000000000000000000000000000000000000000000000000000000000000000000000000000000000000000000000000000000000000000000000000000000000000000000000000000000 &&& mX19_neighbours = 0) := by decide +kernel
