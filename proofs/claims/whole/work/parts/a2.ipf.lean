/-! sending and passing on, with the registry -/
theorem zIp_send {z w : St} {T : Tp} {E : Ev} {g : Sg} {Wy : Wyt} {R : Rg} {mk : Nat → Nat} {K : Int32 → Int32 → Int32 → Prop} {X XM TS TA TB : List Nat} {b x d N : Nat} {D : Dg} (hp : zIp z w T E g g Wy R mk K X XM TS TA TB) (hb : b < tb T) (hx : x = 0 ∨ (515 ≤ x ∧ x < 579) ∨ x ∈ X) (hDc : zPC 11 z x D) (hk : ¬ D.1 2 = 5 ∧ ¬ D.1 2 = 6) (hd : d ∈ XM) (hX : XM.length < 98) (hDm : zMD w T K d D) (h10 : D.1 10 = 0) (hPD : zPd T R D) (how : D.1 2 = 1 → df D = 0 → tha T b (D.1 0) = true) (hN : 1481 < N) :
    ∃ z' w' g', fX11_sendOff N 0 b x z = some (0, z') ∧ (tr T b = false → fX19_hostSends N 0 b (Int32.ofNat d) w = some (0, w')) ∧ (tr T b = true → fX19_routerSends N 0 b (Int32.ofNat d) 0 w = some (0, w')) ∧ zIp z' w' T E g' g' Wy R mk K X XM TS TA TB ∧ zKe X z z' ∧ zKm XM w w' ∧ zGs T E Wy b (fun G => G = D ∨ G.1 2 = 0) g g' := by
  obtain ⟨hp, hR, hW⟩ := hp
  have h4 : D.1 2 = 1 → df D = 0 → 4 ≤ dl D := fun k f => by
    obtain ⟨-, -, -, -, -, h6, h7⟩ := hPD
    have := h7 (Or.inl k)
    rcases h6 f with h | h <;> omega
  obtain ⟨z', w', g', r1, r2, r3, r4, r5, r6, r7, r8, r9⟩ := zp_send (N := N) (show zPai z w T E g Wy (zPd T R) K X XM TS TA TB from hp) (zPd_cl T R) hb hx hDc hPD.1 hk hd hX hDm h10 hPD h4 how hN
  refine ⟨z', w', g', r1, r2, r3, ⟨r4, zRg_same hR r7, fun q hq G hG => ?_⟩, r5, r6, r9⟩
  rcases r8 q G hG with h | h | ⟨h1, h2, h3, h5⟩
  · exact hW q hq G h
  · intro y; rw [h] at y; exact absurd y (by decide)
  · intro y1 y2 y3
    rw [h1, h2] at y3
    rw [how (by rw [← h3]; exact y1) (by rw [← h5]; exact y2)] at y3
    cases y3
theorem zPd_hop {T : Tp} {R : Rg} {D : Dg} {i l : Nat} (h : zPd T R D) (hl : 1 ≤ l ∧ l ≤ 64) : zPd T R (dHop D i (Int32.ofNat l)) := by
  obtain ⟨h1, h2, h3, h4⟩ := h
  exact ⟨h1, h2, ⟨l, hl.1, hl.2, rfl⟩, h4⟩
theorem zIp_forward {z w : St} {T : Tp} {E : Ev} {g : Sg} {Wy : Wyt} {R : Rg} {mk : Nat → Nat} {K : Int32 → Int32 → Int32 → Prop} {X Y TS TA TB : List Nat} {q x d N : Nat} {D : Dg} (hp : zIp z w T E g g Wy R mk K X (d :: Y) TS TA TB) (hm : mk (tw T q) < 2147483646) (hq : tv T q) (hr : tr T (tw T q) = true) (hx : x ∈ X) (hDc : zPC 11 z x D) (hPD : zPd T R D) (hk : ¬ D.1 2 = 5 ∧ ¬ D.1 2 = 6) (hX : Y.length < 97) (hDm : zMD w T K d (dHop D (ti T q) (D.1 4))) (hN : 1481 < N) :
    ∃ z1 z2 w' g' R' mk', fX11_forward N 0 q x z = some (0, z1) ∧ ((zgI z1 11 15 0 = 0 ∧ z2 = z1) ∨ (¬ zgI z1 11 15 0 = 0 ∧ fX11_sendOff N 0 (tw T q) 0 (zsI z1 11 15 0 0) = some (0, z2))) ∧ fX19_forward N 0 (tw T q) (Int32.ofNat d) w = some (0, w') ∧ zIp z2 w' T E g' g' Wy R' mk' K X (d :: Y) TS TA TB ∧ (∀ u, 515 ≤ u → u < 579 → (∀ j, zgI z2 7 j u = zgI z 7 j u) ∧ ∀ i, zgA z2 125 u i = zgA z 125 u i) ∧ (∀ j, j ≠ 4 → j ≠ 10 → zgI z2 7 j x = zgI z 7 j x) ∧ zKm Y w w' ∧ (∀ b n v, R b n = some v → R' b n = some v) ∧ (∀ c, mk c ≤ mk' c ∧ mk' c ≤ mk c + (if c = tw T q then 1 else 0)) ∧ zGs T E Wy (tw T q) (fun G => (∃ l, 2 ≤ l ∧ l ≤ 64 ∧ D.1 4 = Int32.ofNat l ∧ G = dHop D (ti T q) (Int32.ofNat (l - 1))) ∨ G.1 2 = 0) g g' := by
  obtain ⟨hp, hR, hW⟩ := hp
  have h4 : D.1 2 = 1 → df D = 0 → 4 ≤ dl D := fun k f => by
    obtain ⟨-, -, -, -, -, h6, h7⟩ := hPD
    have := h7 (Or.inl k)
    rcases h6 f with h | h <;> omega
  have hc := hp.1.2.1
  obtain ⟨hb, hti, htq⟩ := hc.2.2.2.2.2.1 q hq
  obtain ⟨l, l1, l2, hl⟩ := hPD.2.2.1
  have wo : ∀ {g' : Sg}, (∀ p G, G ∈ gW g' p → G ∈ gW g p ∨ G.1 2 = 0 ∨ (tw T p = tw T q ∧ G.1 10 = Int32.ofNat (ti T q))) → ∀ p, tv T p → ∀ G, G ∈ gW g' p → zWo T (tw T p) G := fun hmem p hp' G hG => by
    rcases hmem p G hG with h | h | ⟨h1, h2⟩
    · exact hW p hp' G h
    · intro y; rw [h] at y; exact absurd y (by decide)
    · intro _ _ _
      exact ⟨ti T q, by rw [h1]; exact hti, h2⟩
  by_cases ce : D.1 2 = 1 ∧ df D = 0 ∧ tha T (tw T q) (D.1 0) = false ∧ (l = 1 ∨ rtR T Wy (tw T q) (D.1 1) = none)
  · have hmk := hR.2 _ hb
    have hmono := rgNew_mono (D := dErr q (dHop D (ti T q) (Int32.ofNat (l - 1))) (Int32.ofNat (mk (tw T q))) (if l = 1 then 2 else 1) (zgA z 125 0)) (zRg_free hR (tw T q))
    have hp' := zPai2_mono (P' := zPd T (rgNew R (tw T q) (mk (tw T q)) (dErr q (dHop D (ti T q) (Int32.ofNat (l - 1))) (Int32.ofNat (mk (tw T q))) (if l = 1 then 2 else 1) (zgA z 125 0)))) (fun G hG => zPd_mono hmono hG) hp
    obtain ⟨z1, z2, w', g', r1, r2, r3, r4, r5, r6, r7, r8, r9, -, r11, r12⟩ := zp_forward (N := N) (l := l) (show zPai _ _ _ _ _ _ _ _ _ _ _ _ _ from hp') (zPd_cl T _) hq hr hx hDc hPD.1 hk hX hDm hl ⟨l1, l2⟩ (fun h2 => zPd_mono hmono (zPd_hop hPD ⟨by omega, by omega⟩)) (fun _ => by rw [hmk.1]; exact zPd_err hq rfl (by omega)) h4 hN
    refine ⟨z1, z2, w', g', _, _, r1, r2, r3, ⟨r4, zRg_new hR hm hb r8.1 (r9 ce), wo r11⟩, r5, r6, r7, hmono, fun c => ?_, zGs_mono (fun G h => h.elim (fun h => Or.inl ⟨l, h.1, l2, hl, h.2⟩) Or.inr) r12⟩
    show mk c ≤ (if c = tw T q then mk (tw T q) + 1 else mk c) ∧ (if c = tw T q then mk (tw T q) + 1 else mk c) ≤ _
    by_cases y : c = tw T q
    · rw [if_pos y, if_pos y, y]; omega
    · rw [if_neg y, if_neg y]; omega
  · obtain ⟨z1, z2, w', g', r1, r2, r3, r4, r5, r6, r7, r8, -, r10, r11, r12⟩ := zp_forward (N := N) (l := l) (show zPai _ _ _ _ _ _ _ _ _ _ _ _ _ from hp) (zPd_cl T _) hq hr hx hDc hPD.1 hk hX hDm hl ⟨l1, l2⟩ (fun h2 => zPd_hop hPD ⟨by omega, by omega⟩) (fun y => absurd y ce) h4 hN
    exact ⟨z1, z2, w', g', R, mk, r1, r2, r3, ⟨r4, zRg_same hR (r10 ce), wo r11⟩, r5, r6, r7, fun _ _ _ h => h, fun c => ⟨Nat.le_refl _, Nat.le_add_right _ _⟩, zGs_mono (fun G h => h.elim (fun h => Or.inl ⟨l, h.1, l2, hl, h.2⟩) Or.inr) r12⟩
