/-! answering an asking, both sides -/
theorem zIp_answer {z w : St} {T : Tp} {E : Ev} {g : Sg} {Wy : Wyt} {R : Rg} {mk : Nat → Nat} {K : Int32 → Int32 → Int32 → Prop} {X XM TS TA TB : List Nat} {q N : Nat} {to addr : Int32} (hp : zIp z w T E g g Wy R mk K X XM TS TA TB) (hq : tv T q) (hto : to = -1 ∨ ∃ t, t < 8 ∧ to = Int32.ofNat t) (hX : XM.length ≤ 100) (hN : 64 < N) :
    ∃ z' w', fX11_putNote N 0 q to 6 addr z = some (0, z') ∧ fX19_put N 0 q to 1 0 (-1) w = some (0, w') ∧ zIp z' w' T E (nNote E g q to 6 addr) (nNote E g q to 6 addr) Wy R mk K X XM TS TA TB ∧ zKe X z z' ∧ zKm XM w w' ∧ zFr mX11_putNote z z' ∧ zFr mX19_put w w' := by
  obtain ⟨⟨pC, pM, pG, pI, ⟨pWc, pWm, pWw⟩, pE, pU, p15⟩, pR, pW⟩ := hp
  obtain ⟨z', r1, r2, r3, f1⟩ := zc_note (N := N) (to := to) (kind := 6) (addr := addr) pC hq (by decide) (by omega)
  obtain ⟨w', u1, u2, u3⟩ := zm_put (N := N) (D := nQ q (dNote q 6 addr) to 0 28) (to := to) (kind := 1) (addr := 0) (dv := -1) pM.1 pM.2.1 pM.2.2.1 pM.2.2.2.1 hq hX pM.2.2.2.2.1 rfl rfl rfl (Or.inr (Or.inl ⟨rfl, rfl, rfl, rfl⟩)) hN
  have f2 : zFr mX19_put w w' := wX19_put (Nat.and_self _) (zFr_rf _ _) _ _ u1
  obtain ⟨e1, e2, -, e3⟩ := nPut_W E g q (nQ q (dNote q 6 addr) to 0 28)
  have i : zGI T E (zPd T R) (nNote E g q to 6 addr) := nNote_I pC.2.2.2.1 hq (Or.inr rfl) hto pI
  have hXr := zX1 pC.2.2.2.2.1.2.2
  refine ⟨z', w', r1, u1, ⟨⟨r2, ⟨zTM_fr f2 (by decide) pM.1, pM.2.1, zEm_fr f2 (by decide) pM.2.2.1, pM.2.2.2.1, u2, ?_, ?_⟩, zGw_c i.1, i, ⟨zWyc_fr f1 (by decide) pWc, zWym_fr f2 (by decide) pWm, pWw⟩, zRE_fr f1 (by decide) f2 (by decide) pE, zUt_keep (z5_putNote (z5_rf _) _ _ r1) f2 (by decide) pU, (zFr_gI f1 (by decide) (by decide) 0).trans p15⟩, zRg_same pR (fun c => z5_putNote (z5_rf _) _ _ r1 c 2 (by decide)), ?_⟩, fun u hu => r3 u ?_ ?_, u3, f1, f2⟩
  · have := zAm_fr f2 (by decide) pM.2.2.2.2.2.1
    unfold zAm nNote at *
    rw [e2]; exact this
  · have := zHm_fr f2 (by decide) pM.2.2.2.2.2.2
    unfold zHm nNote at *
    rw [e3]; exact this
  · intro p hp G hG
    have hG : G ∈ gW (nPut E g q (nQ q (dNote q 6 addr) to 0 28)) p := hG
    rw [e1] at hG
    exact pW p hp G hG
  · rcases hu with h | h
    · omega
    · have := hXr u h; omega
  · rcases hu with h | h
    · exact Or.inr (Or.inl h.1)
    · exact Or.inr (Or.inr h)
