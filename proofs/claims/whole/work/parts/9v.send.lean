/-! both sides send, both sides pass on -/
theorem tha_0 {T : Tp} {b : Nat} {x : Int32} (h : tp T b = 0) : tha T b x = false := by
  unfold tha; rw [h]; rfl
theorem zp_send {z w : St} {T : Tp} {E : Ev} {g : Sg} {Wy : Wyt} {P : Dg → Prop} {K : Int32 → Int32 → Int32 → Prop} {X XM TS TA TB : List Nat} {b x d N : Nat} {D : Dg} (hp : zPai z w T E g Wy P K X XM TS TA TB) (hP : zPcl P) (hb : b < tb T) (hx : x = 0 ∨ (515 ≤ x ∧ x < 579) ∨ x ∈ X) (hDc : zPC 11 z x D) (hDw : zDw D) (hk : ¬ D.1 2 = 5 ∧ ¬ D.1 2 = 6) (hd : d ∈ XM) (hX : XM.length < 98) (hDm : zMD w T K d D) (h10 : D.1 10 = 0) (hPD : P D) (h4 : D.1 2 = 1 → df D = 0 → 4 ≤ dl D) (how : D.1 2 = 1 → df D = 0 → tha T b (D.1 0) = true) (hN : 1481 < N) :
    ∃ z' w' g', fX11_sendOff N 0 b x z = some (0, z') ∧ (tr T b = false → fX19_hostSends N 0 b (Int32.ofNat d) w = some (0, w')) ∧ (tr T b = true → fX19_routerSends N 0 b (Int32.ofNat d) 0 w = some (0, w')) ∧ zPai z' w' T E g' Wy P K X XM TS TA TB ∧ zKe X z z' ∧ zKm XM w w' ∧ (∀ c, zgA z' 113 c 2 = zgA z 113 c 2) ∧ (∀ p G, G ∈ gW g' p → G ∈ gW g p ∨ G.1 2 = 0 ∨ (tw T p = b ∧ G.1 0 = D.1 0 ∧ G.1 2 = D.1 2 ∧ df G = df D)) ∧ zGs T E Wy b (fun G => G = D ∨ G.1 2 = 0) g g' := by
  obtain ⟨z1, z2, w1, F, r1, r2, r3, r4, r5, r6, r7, r8, r9, -, r11⟩ := zp_back2 (b := b) (x := x) (d := d) (D := D) (why := 1) (N := N) hp hP hb (fun a c f => by rw [how a c] at f; cases f) hDc hDw hd hX hDm h4 (fun a c f => by rw [how a c] at f; cases f) hN
  have r7 := r7 how
  have r9 : ∀ c, zgA z2 113 c 2 = zgA z 113 c 2 := r9 how
  subst r7
  obtain ⟨pC, pM, pG, pI, ⟨pWc, pWm, pWw⟩, pE, pU, p15⟩ := id hp
  have hc := pC.2.1
  have so := zc_sendOff (N := N) (Wy := Wy) (b := b) pC pWc pWw pG hb hx hDc hDw hN
  have m1 := (pM.1.2.1.2 b hb).2.2.1
  cases e : rt T Wy b (D.1 1) with
  | none =>
    have mem : ∀ p G, G ∈ gW (F g) p → G ∈ gW g p ∨ G.1 2 = 0 ∨ (tw T p = b ∧ G.1 0 = D.1 0 ∧ G.1 2 = D.1 2 ∧ df G = df D) := by
      intro p G hG
      rcases r11 with r11 | ⟨i, -, r11⟩
      · rw [r11] at hG; exact Or.inl hG
      · rw [r11] at hG
        cases ho : rt T Wy b (D.1 0) with
        | none => rw [ho] at hG; exact Or.inl hG
        | some v =>
          rw [ho] at hG
          rcases nHand_mem hG with hG | hG
          · exact Or.inl hG
          · exact Or.inr (Or.inl (by rw [hG.2]; rfl))
    have mu : ∀ c, zgA z2 113 c 2 = zgA z 113 c 2 := r9
    have gs : zGs T E Wy b (fun G => G = D ∨ G.1 2 = 0) g (F g) := by
      rcases r11 with r11 | ⟨i, -, r11⟩
      · exact Or.inl (by rw [r11]; rfl)
      · exact Or.inr ⟨_, _, zDw_err _ _ _ _ _, Or.inr rfl, by rw [r11]⟩
    have c1 := so.2 e
    rw [r1, zc_e] at c1
    by_cases c : tr T b = true
    · have er : rtR T Wy b (D.1 1) = none := by unfold rt at e; rw [if_pos c] at e; exact e
      have := (zm_routerSends (N := N) (f := 0) pM pWm pWw pI.1 pI.2.2.1 hb c hd (by omega) hDw hk hDm (by omega) hN).2 er
      rw [r3, zc_e] at this
      exact ⟨z2, w1, F g, c1, fun y => (by rw [c] at y; cases y), fun _ => this, r4, r5, r6, mu, mem, gs⟩
    · have c' : tr T b = false := by simpa using c
      have er : rtH T b (D.1 1) = none := by unfold rt at e; rw [if_neg c] at e; exact e
      have := (zm_hostSends (N := N) pM pI.1 pI.2.2.1 hb hd (by omega) hDw hk h10 hDm hN).2 er
      by_cases t0 : tp T b = 0
      · rw [if_pos t0] at this
        have e2 : zgI z 7 2 x = D.1 2 := hDc.1 2 (by omega) (by omega)
        have e5 : zgI z 7 5 x = Int32.ofNat (df D) := (hDc.1 5 (by omega) (by omega)).trans hDw.2.1
        have hdf : df D ≤ 1480 := by have := hDw.2.2.2.1; have := hDw.2.2.2.2.1; omega
        have cb : fX11_comeBack N 0 b x 1 z = some (0, z) := by
          unfold fX11_comeBack
          by_cases k1 : D.1 2 = 1
          · have k5 : ¬ df D = 0 := fun y => by have := how k1 y; rw [tha_0 t0] at this; cases this
            rw [e2, if_neg (fun y => y k1), e5, if_neg (by rw [show (0 : Int32) = Int32.ofNat 0 from rfl, zo_eq (by omega) (by omega)]; exact k5)]
          · rw [e2, if_pos k1]
        have hz : z2 = z := by
          rw [cb] at r1
          have := Option.some.inj r1
          exact (congrArg Prod.snd this).symm
        rw [hz] at c1
        exact ⟨z, w, g, c1, fun _ => this, fun y => absurd y c, hp, zKe_rf _ _, zKm_rf _ _, fun _ => rfl, fun _ _ h => Or.inl h, Or.inl rfl⟩
      · rw [if_neg t0, r3, zc_e] at this
        exact ⟨z2, w1, F g, c1, fun _ => this, fun y => absurd y c, r4, r5, r6, mu, mem, gs⟩
  | some v =>
    obtain ⟨y2, t1, t2, t3, t4, t5⟩ := so.1 v.1 v.2 e
    obtain ⟨a1, a2, a3⟩ := rt_some (q := v.1) (s := v.2) hc pWw hb e
    have gi := nHand_I (b := b) pC.2.2.2.1 hP a1 a3 hDw hk hPD pI
    have memS : ∀ p G, G ∈ gW (nHand E b g v.1 v.2 D) p → G ∈ gW g p ∨ G.1 2 = 0 ∨ (tw T p = b ∧ G.1 0 = D.1 0 ∧ G.1 2 = D.1 2 ∧ df G = df D) := fun p G hG => by
      rcases nHand_mem hG with hG | ⟨hp, hG⟩
      · exact Or.inl hG
      · have hw := hDw.2.2.2.1
        have hw2 := hDw.2.2.2.2.1
        exact Or.inr (Or.inr ⟨by rw [hp, a2], by rw [hG]; rfl, by rw [hG]; rfl, by rw [hG]; exact dCut_f (by omega)⟩)
    have fin : ∀ w', zMV w' T E (nHand E b g v.1 v.2 D) K XM TS TA TB → zFr mX19_deliver w w' → zPai y2 w' T E (nHand E b g v.1 v.2 D) Wy P K X XM TS TA TB := fun w' m f => ⟨t2, m, zGw_c gi.1, gi, ⟨zWyc_fr t4 (by decide) pWc, zWym_fr f (by decide) pWm, pWw⟩, zRE_fr t4 (by decide) f (by decide) pE, zUt_keep (z5_hand (z5_rf _) _ _ t5) f (by decide) pU, (zFr_gI t4 (by decide) (by decide) 0).trans p15⟩
    by_cases c : tr T b = true
    · have er : rtR T Wy b (D.1 1) = some (v.1, v.2) := by unfold rt at e; rw [if_pos c] at e; exact e
      obtain ⟨w', u1, u2, u3, u4⟩ := (zm_routerSends (N := N) (f := 0) pM pWm pWw pI.1 pI.2.2.1 hb c hd (by omega) hDw hk hDm (by omega) hN).1 v.1 v.2 er
      have : zgI w 12 6 b + Int32.ofNat 0 = zgI w 12 6 b := Int32.add_zero _
      rw [this, zsI_id] at u4
      exact ⟨y2, w', _, t1, fun y => (by rw [c] at y; cases y), fun _ => u1, fin w' u2 u4, zKe_h t3, u3, fun c => z5_hand (z5_rf _) _ _ t5 c 2 (by decide), memS, Or.inr ⟨D, D.1 1, hDw, Or.inl rfl, by rw [e]; rfl⟩⟩
    · have er : rtH T b (D.1 1) = some (v.1, v.2) := by unfold rt at e; rw [if_neg c] at e; exact e
      obtain ⟨w', u1, u2, u3, u4⟩ := (zm_hostSends (N := N) pM pI.1 pI.2.2.1 hb hd (by omega) hDw hk h10 hDm hN).1 v.1 v.2 er
      exact ⟨y2, w', _, t1, fun _ => u1, fun y => absurd y c, fin w' u2 u4, zKe_h t3, u3, fun c => z5_hand (z5_rf _) _ _ t5 c 2 (by decide), memS, Or.inr ⟨D, D.1 1, hDw, Or.inl rfl, by rw [e]; rfl⟩⟩
/-- a datagram after its way through a router -/
def dHop (D : Dg) (i : Nat) (l : Int32) : Dg := (fun j => if j = 10 then Int32.ofNat i else if j = 4 then l else D.1 j, D.2)
theorem zMD_set {w : St} {T : Tp} {K : Int32 → Int32 → Int32 → Prop} {d i : Nat} {l l' : Int32} {D : Dg} (h : zMD w T K d (dHop D i l)) : zMD (zsA w 172 0 (18 * d + 4) l') T K d (dHop D i l') := by
  obtain ⟨⟨a0, a1, a2, a3, a4, a5⟩, ⟨b5, b6, b7, b8, b9, b10⟩, hy⟩ := h
  have m : ∀ k, k < 18 → k ≠ 4 → md (zsA w 172 0 (18 * d + 4) l') d k = md w d k := fun k hk h4 => by
    rw [md_set (by omega) hk, if_neg (fun y => h4 y.2)]
  refine ⟨⟨a0, (m 0 (by omega) (by omega)).trans a1, (m 1 (by omega) (by omega)).trans a2, (m 2 (by omega) (by omega)).trans a3, (m 3 (by omega) (by omega)).trans a4, ?_⟩, ⟨(m 5 (by omega) (by omega)).trans b5, (m 6 (by omega) (by omega)).trans b6, (m 7 (by omega) (by omega)).trans b7, (m 8 (by omega) (by omega)).trans b8, (m 9 (by omega) (by omega)).trans b9, b10⟩, ?_⟩
  · rw [md_set (by omega) (by omega), if_pos ⟨rfl, rfl⟩]; rfl
  · refine zMY_cg (D := dHop D i l) (fun k h1 h2 => m k h2 (by omega)) (fun s _ _ => ⟨fun k _ => ?_, fun _ _ => rfl⟩) (fun a _ _ k _ => ?_) rfl rfl rfl rfl rfl b10 hy
    · show zgA (zsA w 172 0 _ _) 174 0 _ = _
      rw [zgA_sA, if_neg (by simp)]; rfl
    · show zgA (zsA w 172 0 _ _) 178 0 _ = _
      rw [zgA_sA, if_neg (by simp)]; rfl
theorem zp_forward {z w : St} {T : Tp} {E : Ev} {g : Sg} {Wy : Wyt} {P : Dg → Prop} {K : Int32 → Int32 → Int32 → Prop} {X Y TS TA TB : List Nat} {q x d l N : Nat} {D : Dg} (hp : zPai z w T E g Wy P K X (d :: Y) TS TA TB) (hP : zPcl P) (hq : tv T q) (hr : tr T (tw T q) = true) (hx : x ∈ X) (hDc : zPC 11 z x D) (hDw : zDw D) (hk : ¬ D.1 2 = 5 ∧ ¬ D.1 2 = 6) (hX : Y.length < 97) (hDm : zMD w T K d (dHop D (ti T q) (D.1 4))) (hl : D.1 4 = Int32.ofNat l) (hl1 : 1 ≤ l ∧ l ≤ 64) (hPD : 2 ≤ l → P (dHop D (ti T q) (Int32.ofNat (l - 1)))) (hPe : (D.1 2 = 1 ∧ df D = 0 ∧ tha T (tw T q) (D.1 0) = false ∧ (l = 1 ∨ rtR T Wy (tw T q) (D.1 1) = none)) → P (dErr q (dHop D (ti T q) (Int32.ofNat (l - 1))) (zgA z 113 (tw T q) 2) (if l = 1 then 2 else 1) (zgA z 125 0))) (h4 : D.1 2 = 1 → df D = 0 → 4 ≤ dl D) (hN : 1481 < N) :
    ∃ z1 z2 w' g', fX11_forward N 0 q x z = some (0, z1) ∧ ((zgI z1 11 15 0 = 0 ∧ z2 = z1) ∨ (¬ zgI z1 11 15 0 = 0 ∧ fX11_sendOff N 0 (tw T q) 0 (zsI z1 11 15 0 0) = some (0, z2))) ∧ fX19_forward N 0 (tw T q) (Int32.ofNat d) w = some (0, w') ∧ zPai z2 w' T E g' Wy P K X (d :: Y) TS TA TB ∧ (∀ u, 515 ≤ u → u < 579 → (∀ j, zgI z2 7 j u = zgI z 7 j u) ∧ ∀ i, zgA z2 125 u i = zgA z 125 u i) ∧ (∀ j, j ≠ 4 → j ≠ 10 → zgI z2 7 j x = zgI z 7 j x) ∧ zKm Y w w' ∧ zMu z z2 (tw T q) ∧ ((D.1 2 = 1 ∧ df D = 0 ∧ tha T (tw T q) (D.1 0) = false ∧ (l = 1 ∨ rtR T Wy (tw T q) (D.1 1) = none)) → zgA z2 113 (tw T q) 2 = zgA z 113 (tw T q) 2 + 1) ∧ (¬ (D.1 2 = 1 ∧ df D = 0 ∧ tha T (tw T q) (D.1 0) = false ∧ (l = 1 ∨ rtR T Wy (tw T q) (D.1 1) = none)) → ∀ c, zgA z2 113 c 2 = zgA z 113 c 2) ∧ (∀ p G, G ∈ gW g' p → G ∈ gW g p ∨ G.1 2 = 0 ∨ (tw T p = tw T q ∧ G.1 10 = Int32.ofNat (ti T q))) ∧ zGs T E Wy (tw T q) (fun G => (2 ≤ l ∧ G = dHop D (ti T q) (Int32.ofNat (l - 1))) ∨ G.1 2 = 0) g g' := by
  obtain ⟨pC, pM, pG, pI, ⟨pWc, pWm, pWw⟩, pE, pU, p15⟩ := id hp
  have hT := pC.1
  have hc := pC.2.1
  obtain ⟨hb, hti, htq⟩ := hc.2.2.2.2.2.1 q hq
  have hp6 := (hc.2.2.2.2.1 _ hb).1
  obtain ⟨t0, -, t2, -, -⟩ := hT.2.2.2 _ hq
  obtain ⟨-, -, -, -, kq, -⟩ := hT.2.1.2 _ hb
  have hd24 : d < 2400 := hDm.1.1
  have hx515 := zX1 pC.2.2.2.2.1.2.2 x hx
  let D2 : Dg := dHop D (ti T q) (Int32.ofNat (l - 1))
  have hD2w : zDw D2 := hDw
  -- the class's parcel
  let za : St := zsI (zsI z 7 10 x (Int32.ofNat (ti T q))) 7 4 x (Int32.ofNat (l - 1))
  have fa : zFr 0x4100000000000000000000000000000000000000000000000000000000000000000000000000000000000000000000000000000000000000000 z za := zFr_I (zFr_I (zFr_rf _ _) (by decide)) (by decide)
  have Ia : ∀ j u, zgI za 7 j u = if u = x ∧ j = 4 then Int32.ofNat (l - 1) else if u = x ∧ j = 10 then Int32.ofNat (ti T q) else zgI z 7 j u := fun j u => by
    show zgI (zsI (zsI z 7 10 x _) 7 4 x _) 7 j u = _
    rw [zgI_sI, zgI_sI]
    by_cases c : u = x
    · by_cases c4 : j = 4
      · rw [if_pos (show 7 = 7 ∧ j = 4 ∧ u = x from ⟨rfl, c4, c⟩), if_pos (show u = x ∧ j = 4 from ⟨c, c4⟩)]
      · rw [if_neg (show ¬ (7 = 7 ∧ j = 4 ∧ u = x) from fun y => c4 y.2.1), if_neg (show ¬ (u = x ∧ j = 4) from fun y => c4 y.2)]
        by_cases c10 : j = 10
        · rw [if_pos (show 7 = 7 ∧ j = 10 ∧ u = x from ⟨rfl, c10, c⟩), if_pos (show u = x ∧ j = 10 from ⟨c, c10⟩)]
        · rw [if_neg (show ¬ (7 = 7 ∧ j = 10 ∧ u = x) from fun y => c10 y.2.1), if_neg (show ¬ (u = x ∧ j = 10) from fun y => c10 y.2)]
    · rw [if_neg (show ¬ (7 = 7 ∧ j = 4 ∧ u = x) from fun y => c y.2.2), if_neg (show ¬ (7 = 7 ∧ j = 10 ∧ u = x) from fun y => c y.2.2), if_neg (show ¬ (u = x ∧ j = 4) from fun y => c y.1), if_neg (show ¬ (u = x ∧ j = 10) from fun y => c y.1)]
  have Ca : zNC za T E g X := zNC_cg fa (by decide) (fun u _ _ hu => ⟨fun j => by rw [Ia, if_neg (fun y => hu (by rw [y.1]; exact hx)), if_neg (fun y => hu (by rw [y.1]; exact hx))], fun _ => rfl⟩) (fun _ => rfl) pC
  have Pa : zPC 11 za x D2 := ⟨fun j hj h8 => by
    rw [Ia]
    show _ = (if j = 10 then Int32.ofNat (ti T q) else if j = 4 then Int32.ofNat (l - 1) else D.1 j)
    by_cases c4 : j = 4
    · rw [if_pos ⟨rfl, c4⟩, if_neg (by omega), if_pos c4]
    · rw [if_neg (fun y => c4 y.2)]
      by_cases c10 : j = 10
      · rw [if_pos ⟨rfl, c10⟩, if_pos c10]
      · rw [if_neg (fun y => c10 y.2), if_neg c10, if_neg c4]; exact hDc.1 j hj h8, fun i hi => hDc.2 i hi⟩
  -- the model's
  have n4 := zm_setN (k := 4) (v := Int32.ofNat (l - 1)) hc pM.2.2.2.2.1.2.2 (by omega) (by omega) (by omega)
  let wa : St := zsA w 172 0 (18 * d + 4) (Int32.ofNat (l - 1))
  have fb : zFr 0x100000000000000000000000000000000000000000000000000000000000000000000000000000000000000000000000000000000000000000000000000000000000000000000000000000000000000000000000000000000000000000000000000000000000000000000000000000000000000000000000000000000000000000000000000000000000000000000000000000000000000000000000000000000000000000000000000 w wa := zFr_A (zFr_rf _ _) (by decide)
  have Ma : zMV wa T E g K (d :: Y) TS TA TB := zMV_up fb (by decide) n4.1 pM
  have Da : zMD wa T K d D2 := zMD_set hDm
  have pa : zPai za wa T E g Wy P K X (d :: Y) TS TA TB := ⟨Ca, Ma, pG, pI, ⟨zWyc_fr fa (by decide) pWc, zWym_fr fb (by decide) pWm, pWw⟩, zRE_fr fa (by decide) fb (by decide) pE, zUt_keep (z5_fr fa (by decide)) fb (by decide) pU, (zFr_gI fa (by decide) (by decide) 0).trans p15⟩
  have hback : D2.1 2 = 1 → df D2 = 0 → tha T (tw T q) (D2.1 0) = false → x ≠ 0 := fun _ _ _ => by omega
  have h4' : D2.1 2 = 1 → df D2 = 0 → 4 ≤ dl D2 := h4
  have herr : ∀ why, why = (if l = 1 then 2 else 1) → (l = 1 ∨ rtR T Wy (tw T q) (D.1 1) = none) → D2.1 2 = 1 → df D2 = 0 → tha T (tw T q) (D2.1 0) = false → ∃ i, i < tp T (tw T q) ∧ D2.1 10 = Int32.ofNat i ∧ P (dErr (tq T (tw T q) i) D2 (zgA za 113 (tw T q) 2) why (zgA za 125 0)) := fun why hy hr a c f => ⟨ti T q, hti, rfl, by rw [htq, hy]; exact hPe ⟨a, c, f, hr⟩⟩
  have e4 : zgI z 7 4 x = Int32.ofNat l := (hDc.1 4 (by omega) (by omega)).trans hl
  have c4 : fX11_forward N 0 q x z = (if 0 < Int32.ofNat (l - 1) then (zd (some (tw T q)) fun a5 => zc (fX11_routeFromRouter N 0 a5 (zgI za 7 1 x) za) fun r6 z7 => if 0 ≤ r6 then (zk (4 : Int32) 8 <| zk (4 : Int32) 8 <| zl (zsA z7 113 a5 (Int32.toNatClampNeg (4 : Int32)) ((zgA z7 113 a5 (Int32.toNatClampNeg (4 : Int32))) + (1 : Int32))) fun z13 => zk (r6 >>> ((3 : Int32) &&& 31)) 6 <| zl (zgQ z13 112 a5 (Int32.toNatClampNeg (r6 >>> ((3 : Int32) &&& 31)))) fun y15 => zd y15 fun a16 => zc (fX11_hand N 0 a16 (r6 &&& (7 : Int32)) x z13) fun _ z18 => some (0, z18)) else (zc (fX11_comeBack N 0 a5 x (1 : Int32) z7) fun _ z22 => some (0, z22))) else (zd (some (tw T q)) fun a25 => zc (fX11_comeBack N 0 a25 x (2 : Int32) za) fun _ z27 => some (0, z27))) := by
    unfold fX11_forward
    have i4 : zgI (zsI z 7 10 x (Int32.ofNat (ti T q))) 7 4 x = Int32.ofNat l := by
      rw [zgI_sI, if_neg (by simp)]; exact e4
    have i4' : zgI za 7 4 x = Int32.ofNat (l - 1) := by rw [Ia, if_pos ⟨rfl, rfl⟩]
    rw [zl_e, t0, t2, zl_e, i4, zo_s1 (by omega), zl_e]
    show (if 0 < zgI za 7 4 x then _ else _) = _
    rw [i4']
  have cm : fX19_forward N 0 (tw T q) (Int32.ofNat d) w = (if ¬ Int32.ofNat (l - 1) = 0 then (zc (fX19_routerSends N 0 (tw T q) (Int32.ofNat d) (1 : Int32) wa) fun _ z15 => some (0, z15)) else (zc (fX19_comeBack N 0 (tw T q) (Int32.ofNat d) wa) fun _ z19 => some (0, z19))) := by
    unfold fX19_forward
    have o4 : fX19_of N 0 (Int32.ofNat d) 4 w = some (Int32.ofNat l, w) := by
      have : md w d 4 = Int32.ofNat l := hDm.1.2.2.2.2.2.trans hl
      rw [← this]; exact zm_of (k := 4) hd24 (by omega)
    have s4 : fX19_set N 0 (Int32.ofNat d) 4 (Int32.ofNat (l - 1)) w = some (0, wa) := zm_set (k := 4) hd24 (by omega)
    have o4' : fX19_of N 0 (Int32.ofNat d) 4 wa = some (Int32.ofNat (l - 1), wa) := by
      have : md wa d 4 = Int32.ofNat (l - 1) := by
        show md (zsA w 172 0 (18 * d + 4) _) d 4 = _
        rw [md_set (by omega) (by omega), if_pos ⟨rfl, rfl⟩]
      rw [← this]; exact zm_of (k := 4) hd24 (by omega)
    rw [o4, zc_e, zo_s1 (by omega), s4, zc_e, o4', zc_e]
  have keep1 : zKm Y w wa := n4.2
  have par : ∀ {z2 : St}, zKe X za z2 → (∀ u, 515 ≤ u → u < 579 → (∀ j, zgI z2 7 j u = zgI z 7 j u) ∧ ∀ i, zgA z2 125 u i = zgA z 125 u i) ∧ (∀ j, j ≠ 4 → j ≠ 10 → zgI z2 7 j x = zgI z 7 j x) := fun k => ⟨fun u h1 h2 => ⟨fun j => by rw [(k u (Or.inl ⟨h1, h2⟩)).1 j, Ia, if_neg (by omega), if_neg (by omega)], fun i => (k u (Or.inl ⟨h1, h2⟩)).2 i⟩, fun j j4 j10 => by rw [(k x (Or.inr hx)).1 j, Ia, if_neg (fun y => j4 y.2), if_neg (fun y => j10 y.2)]⟩
  have mem : ∀ {F : Sg → Sg} {why : Int32}, (F = id ∨ ∃ i, i < tp T (tw T q) ∧ F = fun g => nGo E (tw T q) g (dErr (tq T (tw T q) i) D2 (zgA za 113 (tw T q) 2) why (zgA za 125 0)) (rt T Wy (tw T q) (D2.1 0))) → ∀ p G, G ∈ gW (F g) p → G ∈ gW g p ∨ G.1 2 = 0 ∨ (tw T p = tw T q ∧ G.1 10 = Int32.ofNat (ti T q)) := by
    rintro F why (rfl | ⟨i, -, rfl⟩) p G hG
    · exact Or.inl hG
    · cases ho : rt T Wy (tw T q) (D2.1 0) with
      | none => rw [ho] at hG; exact Or.inl hG
      | some v =>
        rw [ho] at hG
        rcases nHand_mem hG with hG | hG
        · exact Or.inl hG
        · exact Or.inr (Or.inl (by rw [hG.2]; rfl))
  have gs : ∀ {F : Sg → Sg} {why : Int32}, (F = id ∨ ∃ i, i < tp T (tw T q) ∧ F = fun g => nGo E (tw T q) g (dErr (tq T (tw T q) i) D2 (zgA za 113 (tw T q) 2) why (zgA za 125 0)) (rt T Wy (tw T q) (D2.1 0))) → zGs T E Wy (tw T q) (fun G => (2 ≤ l ∧ G = dHop D (ti T q) (Int32.ofNat (l - 1))) ∨ G.1 2 = 0) g (F g) := by
    rintro F why (rfl | ⟨i, -, rfl⟩)
    · exact Or.inl rfl
    · exact Or.inr ⟨_, _, zDw_err _ _ _ _ _, Or.inr rfl, rfl⟩
  by_cases hl2 : l = 1
  · obtain ⟨z1, z2, w1, F, r1, r2, r3, r4, r5, r6, -, r8, r9, r10, r11⟩ := zp_back (why := 2) (N := N) pa hP hb hback Pa hD2w List.mem_cons_self (by simp; omega) Da h4' (herr 2 (by rw [if_pos hl2]) (Or.inl hl2)) hN
    refine ⟨z1, z2, w1, F g, ?_, r2, ?_, r4, (par r5).1, (par r5).2, zKm_tr keep1 (zKm_sub (fun e he => List.mem_cons_of_mem _ he) r6), r8, fun y => r10 y.1 y.2.1 y.2.2.1, fun y => r9 (fun a c => by
      cases f : tha T (tw T q) (D.1 0) with
      | true => exact f
      | false => exact absurd ⟨a, c, f, Or.inl hl2⟩ y), mem r11, gs r11⟩
    · rw [c4, if_neg (by rw [hl2]; decide), zd_e, r1, zc_e]
    · rw [cm, if_neg (by rw [hl2]; decide), r3, zc_e]
  · have hpos : ¬ Int32.ofNat (l - 1) = 0 := by rw [show (0 : Int32) = Int32.ofNat 0 from rfl, zo_eq (by omega) (by omega)]; omega
    have hpos2 : 0 < Int32.ofNat (l - 1) := by rw [show (0 : Int32) = Int32.ofNat 0 from rfl, zo_lt (by omega) (by omega)]; omega
    have i1 : zgI za 7 1 x = D2.1 1 := Pa.1 1 (by omega) (by omega)
    rw [if_pos hpos2, zd_e, i1, zc_routeR pa.1.1 hc pa.2.2.2.2.1.1 pWw _ hb hr (by omega), zc_e] at c4
    rw [if_pos hpos] at cm
    have ms := zm_routerSends (N := N) (f := 1) pa.2.1 pa.2.2.2.2.1.2.1 pWw pI.1 pI.2.2.1 hb hr List.mem_cons_self (by simp; omega) hD2w hk Da (by omega) hN
    cases e : rtR T Wy (tw T q) (D2.1 1) with
    | none =>
      obtain ⟨z1, z2, w1, F, r1, r2, r3, r4, r5, r6, -, r8, r9, r10, r11⟩ := zp_back2 (why := 1) (N := N) pa hP hb hback Pa hD2w List.mem_cons_self (by simp; omega) Da h4' (herr 1 (by rw [if_neg hl2]) (Or.inr e)) hN
      have ms2 := ms.2 e
      rw [r3, zc_e] at ms2
      rw [e, show rtn T none = (-1 : Int32) from rfl, if_neg (by decide), r1, zc_e] at c4
      refine ⟨z1, z2, w1, F g, c4, r2, ?_, r4, (par r5).1, (par r5).2, zKm_tr keep1 (zKm_sub (fun e he => List.mem_cons_of_mem _ he) r6), r8, fun y => r10 y.1 y.2.1 y.2.2.1, fun y => r9 (fun a c => by
      cases f : tha T (tw T q) (D.1 0) with
      | true => exact f
      | false => exact absurd ⟨a, c, f, Or.inr e⟩ y), mem r11, gs r11⟩
      rw [cm]
      have : (Int32.ofNat 1 : Int32) = 1 := rfl
      rw [← this, ms2, zc_e]
    | some v =>
      obtain ⟨a1, a2, a3⟩ := rtR_some (q := v.1) (s := v.2) hc pWw hb hr e
      obtain ⟨w', u1, u2, u3, u4⟩ := ms.1 v.1 v.2 e
      have hti' := (hc.2.2.2.2.2.1 v.1 a1).2
      rw [a2] at hti'
      let zb : St := zsA za 113 (tw T q) 4 (zgA za 113 (tw T q) 4 + 1)
      have fz : zFr 0x200000000000000000000000000000000000000000000000000000000000000000000000000000000000000000000000000000000000000000000000000000000000000000000000000000000000000000000000000000000000000000000000000000000000000000000000000000000000000000000000000000000000000000000000000000000000000000000000000000000000000000000000000000000000 za zb := zFr_A (zFr_rf _ _) (by decide)
      have Ib : ∀ j u, zgI zb 7 j u = zgI za 7 j u := fun _ _ => rfl
      have Ab : ∀ u i, zgA zb 125 u i = zgA za 125 u i := fun u i => by
        show zgA (zsA za 113 _ 4 _) 125 u i = _
        rw [zgA_sA, if_neg (by simp)]
      have A113 : ∀ c k, zgA zb 113 c k = if c = tw T q ∧ k = 4 then zgA z 113 (tw T q) 4 + 1 else zgA z 113 c k := fun c k => by
        show zgA (zsA za 113 _ 4 _) 113 c k = _
        rw [zgA_sA]; simp only [true_and]; rfl
      have Cb : zNC zb T E g X := zNC_cg fz (by decide) (fun u _ _ _ => ⟨fun j => Ib j u, fun i => Ab u i⟩) (fun c => by rw [A113, if_neg (by simp)]; rfl) Ca
      have Pb : zPC 11 zb x D2 := zPC_cg (fun j _ => Ib j x) (fun i => Ab x i) Pa
      obtain ⟨z', r1, r2, r3⟩ := zc_hand (N := N) Cb pG a1 a3 (Or.inr (Or.inr hx)) Pb hD2w hN
      rw [a2] at r2
      have fh : zFr mX11_hand zb z' := wX11_hand (Nat.and_self _) (zFr_rf _ _) _ _ r1
      have crun : fX11_forward N 0 q x z = some (0, z') := by
        rw [c4, e]
        have e8 := zrt (8 * ti T v.1 + v.2) (by omega)
        have e7 : ∀ {β : Type} (k : Option β), zk (4 : Int32) 8 k = k := fun k => zkk (i := 4) (by decide) (by decide) k
        show (if 0 ≤ Int32.ofNat (8 * ti T v.1 + v.2) then _ else _) = _
        rw [if_pos (zo_ge (by omega)), e7, e7, zl_e]
        show zk (Int32.ofNat (8 * ti T v.1 + v.2) >>> ((3 : Int32) &&& 31)) 6 _ = _
        rw [show rtn T (some v) = Int32.ofNat (8 * ti T v.1 + v.2) from rfl, e8.1, e8.2, zkk (by omega) (by omega), zl_e, zoC (by omega)]
        have e3 : (8 * ti T v.1 + v.2) / 8 = ti T v.1 := by omega
        have e4 : (8 * ti T v.1 + v.2) % 8 = v.2 := by omega
        rw [e3, e4]
        show zd (zgQ z 112 (tw T q) (ti T v.1)) _ = _
        rw [kq _ hti'.1, hti'.2, zd_e]
        show zc (fX11_hand N 0 v.1 (Int32.ofNat v.2) x zb) _ = _
        rw [r1, zc_e]
      have f12 : ∀ j c, j = 4 ∨ j = 5 ∨ j = 6 ∨ j = 8 ∨ j = 9 → zgI w' 12 j c = if j = 6 ∧ c = tw T q then zgI w 12 6 (tw T q) + 1 else zgI w 12 j c := fun j c hj => by
        have a : zgI w' 12 j c = zgI (zsI wa 12 6 (tw T q) (zgI wa 12 6 (tw T q) + Int32.ofNat 1)) 12 j c := by
          rcases hj with rfl | rfl | rfl | rfl | rfl <;> exact zFr_gI u4 (by decide) (by decide) c
        rw [a, zgI_sI]; simp only [true_and]; rfl
      have fM : zFr (mX19_deliver ||| 0x100000000000000000000000000000000000000000000000000000000000000000000000000000000000000000000000000000000000000000000000000000000000000000000000040000000000000000000000000000000000000000000000000000000000000000000000000000000000000000000000000000000000000000000000000000000000000000000000000000000000000000000000000000000000000000000000000) w w' := zFr_tr (zFr_w fb (by decide)) (zFr_tr (zFr_I (zFr_rf _ _) (by decide)) (zFr_w u4 (by decide)))
      have fC : zFr (mX11_hand ||| 0x200000000000000000000000000000000000000000000000000000000000000000000000000000000000000000000000000000000000000000000000000000000000000000000000000000000000000000000000000000000000000000000000000000000000000004100000000000000000000000000000000000000000000000000000000000000000000000000000000000000000000000000000000000000000) z z' := zFr_tr (zFr_w fa (by decide)) (zFr_tr (zFr_w fz (by decide)) (zFr_w fh (by decide)))
      have i15 : zgI z' 11 15 0 = 0 := (zFr_gI fC (by decide) (by decide) 0).trans p15
      have ke : zKe X za z' := zKe_tr (fun u _ => ⟨fun j => Ib j u, fun i => Ab u i⟩) (zKe_h r3)
      refine ⟨z', z', w', _, crun, Or.inl ⟨i15, rfl⟩, ?_, ⟨r2, u2, nHand_c a1 a3 hD2w pG, nHand_I pC.2.2.2.1 hP a1 a3 hD2w hk (hPD (by omega)) pI, ⟨zWyc_fr fC (by decide) pWc, zWym_fr fM (by decide) pWm, pWw⟩, zRE_fr fC (by decide) fM (by decide) pE, ?_, i15⟩, (par ke).1, (par ke).2, zKm_tr keep1 (zKm_sub (fun e he => List.mem_cons_of_mem _ he) u3), zMu_eq (fun c => (z5_hand (z5_rf zb) _ _ r1 c 2 (by decide)).trans ((A113 c 2).trans (if_neg (by omega)))), fun y => absurd y.2.2.2 (fun o => by rcases o with o | o; exact hl2 o; rw [show D.1 1 = D2.1 1 from rfl, e] at o; cases o), fun _ c => (z5_hand (z5_rf zb) _ _ r1 c 2 (by decide)).trans ((A113 c 2).trans (if_neg (by omega))), fun p G hG => by
        rcases nHand_mem hG with hG | ⟨hp, hG⟩
        · exact Or.inl hG
        · exact Or.inr (Or.inr ⟨by rw [hp, a2], by rw [hG]; rfl⟩), Or.inr ⟨D2, D2.1 1, hD2w, Or.inl ⟨by omega, rfl⟩, by unfold rt; rw [if_pos hr, e]; rfl⟩⟩
      · rw [cm]
        have : (Int32.ofNat 1 : Int32) = 1 := rfl
        rw [← this, u1, zc_e]
      · intro c hc'
        obtain ⟨a2, a3, a4, a6, a7⟩ := pU c hc'
        have h5 := z5_hand (z5_rf zb) _ _ r1
        rw [h5 c 2 (by decide), h5 c 3 (by decide), h5 c 4 (by decide), h5 c 6 (by decide), h5 c 7 (by decide), A113, A113, A113, A113, A113, f12 4 c (by simp), f12 5 c (by simp), f12 6 c (by simp), f12 8 c (by simp), f12 9 c (by simp)]
        rw [if_neg (by omega : ¬ (c = tw T q ∧ 2 = 4)), if_neg (by omega : ¬ (c = tw T q ∧ 3 = 4)), if_neg (by omega : ¬ (c = tw T q ∧ 6 = 4)), if_neg (by omega : ¬ (c = tw T q ∧ 7 = 4)), if_neg (by omega : ¬ (4 = 6 ∧ c = tw T q)), if_neg (by omega : ¬ (5 = 6 ∧ c = tw T q)), if_neg (by omega : ¬ (8 = 6 ∧ c = tw T q)), if_neg (by omega : ¬ (9 = 6 ∧ c = tw T q))]
        refine ⟨a2, a3, ?_, a6, a7⟩
        by_cases y : c = tw T q
        · rw [if_pos ⟨y, rfl⟩, if_pos ⟨rfl, y⟩, ← y, a4]
        · rw [if_neg (fun t => y t.1), if_neg (fun t => y t.2)]; exact a4
