/-! asking again, both sides -/
theorem zc_note {z : St} {T : Tp} {E : Ev} {g : Sg} {X : List Nat} {q N : Nat} {to kind addr : Int32} (h : zNC z T E g X) (hq : tv T q) (hk : kind ≠ 0 ∧ kind ≠ 1) (hN : 3 < N) : ∃ z', fX11_putNote N 0 q to kind addr z = some (0, z') ∧ zNC z' T E (nNote E g q to kind addr) X ∧ (∀ u, u ≠ 1 → u < 2 ∨ 515 ≤ u ∨ u ∈ X → (∀ j, zgI z' 7 j u = zgI z 7 j u) ∧ ∀ i, zgA z' 125 u i = zgA z 125 u i) ∧ zFr mX11_putNote z z' := by
  obtain ⟨hT, hc, hE, hw, hd, hW, hA, hH, hno, hX⟩ := h
  have hXr := zX1 hd.2.2
  obtain ⟨z2, n1, n2, n3, n4⟩ := zc_putNote (N := N) (to := to) (kind := kind) (addr := addr) hk hT hc hE hw hd hno hq hX (fun y => by have := hXr 1 y; omega) hN
  have f2 : zFr mX11_putNote z z2 := wX11_putNote (Nat.and_self _) (zFr_rf _ _) _ _ n1
  obtain ⟨e1, e2, -, e3⟩ := nPut_W E g q (nQ q (dNote q kind addr) to 0 28)
  refine ⟨z2, n1, ⟨zTC_fr f2 (by decide) hT, hc, zEc_fr f2 (by decide) hE, hw, n2, ?_, ?_, ?_, n4, hX⟩, n3, f2⟩
  · have := zWc_fr f2 (by decide) (fun u hu => n3 u (by omega) (Or.inr (Or.inl hu))) hW
    unfold zWc nNote at *
    rw [e1]; exact this
  · have := zAc_fr f2 (by decide) hA
    unfold zAc nNote at *
    rw [e2]; exact this
  · have := zHc_fr f2 (by decide) hH
    unfold zHc nNote at *
    rw [e3]; exact this
theorem zIp_ask {z w : St} {T : Tp} {E : Ev} {g : Sg} {Wy : Wyt} {R : Rg} {mk : Nat → Nat} {K : Int32 → Int32 → Int32 → Prop} {X XM TS TA TB : List Nat} {q s N : Nat} (hp : zIp z w T E g g Wy R mk K X XM TS TA TB) (hq : tv T q) (hs : s < 8) (hX : XM.length ≤ 100) (hN : 64 < N) :
    ∃ z' w', fX11_putNote N 0 q (-1) 5 (zad (8 * (q / 8) + s)) z = some (0, z') ∧ fX19_ask N 0 q (Int32.ofNat s) w = some (0, w') ∧ zIp z' w' T E (nAsk E g q s) (nAsk E g q s) Wy R mk K X XM TS TA TB ∧ zKe X z z' ∧ zKm XM w w' ∧ zFr mX11_putNote z z' ∧ zFr mX19_ask w w' := by
  obtain ⟨⟨pC, pM, pG, pI, ⟨pWc, pWm, pWw⟩, pE, pU, p15⟩, pR, pW⟩ := hp
  obtain ⟨z', r1, r2, r3, f1⟩ := zc_note (N := N) (to := -1) (kind := 5) (addr := zad (8 * (q / 8) + s)) pC hq (by decide) (by omega)
  obtain ⟨w', u1, u2, u3, f2⟩ := zm_ask (N := N) pM.1 pM.2.1 pM.2.2.1 pM.2.2.2.1 pM.2.2.2.2.1 hq hs hX hN
  obtain ⟨e1, e2, -, e3⟩ := nPut_W E g q (nQ q (dNote q 5 (zad (8 * (q / 8) + s))) (-1) 0 28)
  have i : zGI T E (zPd T R) (nAsk E g q s) := nNote_I pC.2.2.2.1 hq (Or.inl rfl) (Or.inl rfl) pI
  have hXr := zX1 pC.2.2.2.2.1.2.2
  refine ⟨z', w', r1, u1, ⟨⟨r2, ⟨zTM_fr f2 (by decide) pM.1, pM.2.1, zEm_fr f2 (by decide) pM.2.2.1, pM.2.2.2.1, u2, ?_, ?_⟩, zGw_c i.1, i, ⟨zWyc_fr f1 (by decide) pWc, zWym_fr f2 (by decide) pWm, pWw⟩, zRE_fr f1 (by decide) f2 (by decide) pE, zUt_keep (z5_putNote (z5_rf _) _ _ r1) f2 (by decide) pU, (zFr_gI f1 (by decide) (by decide) 0).trans p15⟩, zRg_same pR (fun c => z5_putNote (z5_rf _) _ _ r1 c 2 (by decide)), ?_⟩, fun u hu => r3 u ?_ ?_, u3, f1, f2⟩
  · have := zAm_fr f2 (by decide) pM.2.2.2.2.2.1
    unfold zAm nAsk nNote at *
    rw [e2]; exact this
  · have := zHm_fr f2 (by decide) pM.2.2.2.2.2.2
    unfold zHm nAsk nNote at *
    rw [e3]; exact this
  · intro p hp G hG
    have hG : G ∈ gW (nPut E g q (nQ q (dNote q 5 (zad (8 * (q / 8) + s))) (-1) 0 28)) p := hG
    rw [e1] at hG
    exact pW p hp G hG
  · rcases hu with h | h
    · omega
    · have := hXr u h; omega
  · rcases hu with h | h
    · exact Or.inr (Or.inl h.1)
    · exact Or.inr (Or.inr h)
