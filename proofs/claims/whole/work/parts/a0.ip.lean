/-! both sides, with the registry of datagrams -/
/-- what waits at a box is its own or knows its way back -/
def zWo (T : Tp) (b : Nat) (D : Dg) : Prop := D.1 2 = 1 → df D = 0 → tha T b (D.1 0) = false → ∃ i, i < tp T b ∧ D.1 10 = Int32.ofNat i
def zIp (z w : St) (T : Tp) (E : Ev) (gc gm : Sg) (Wy : Wyt) (R : Rg) (mk : Nat → Nat) (K : Int32 → Int32 → Int32 → Prop) (X XM TS TA TB : List Nat) : Prop := zPai2 z w T E gc gm Wy (zPd T R) K X XM TS TA TB ∧ zRg T z R mk ∧ ∀ q, tv T q → ∀ D, D ∈ gW gc q → zWo T (tw T q) D
theorem zIp_back {z w : St} {T : Tp} {E : Ev} {gc gm : Sg} {Wy : Wyt} {R : Rg} {mk : Nat → Nat} {K : Int32 → Int32 → Int32 → Prop} {X XM TS TA TB : List Nat} {b x d N : Nat} {D : Dg} {why : Int32} (hp : zIp z w T E gc gm Wy R mk K X XM TS TA TB) (hm : mk b < 2147483646) (hb : b < tb T) (hx : x ≠ 0) (hDc : zPC 11 z x D) (hPD : zPd T R D) (hWo : zWo T b D) (hd : d ∈ XM) (hX : XM.length < 98) (hDm : zMD w T K d D) (hN : 1481 < N) :
    ∃ z1 z2 w' F R' mk', fX11_comeBack N 0 b x why z = some (0, z1) ∧ ((zgI z1 11 15 0 = 0 ∧ z2 = z1) ∨ (¬ zgI z1 11 15 0 = 0 ∧ fX11_sendOff N 0 b 0 (zsI z1 11 15 0 0) = some (0, z2))) ∧ fX19_comeBack N 0 b (Int32.ofNat d) w = some (0, w') ∧ zIp z2 w' T E (F gc) (F gm) Wy R' mk' K X XM TS TA TB ∧ zKe X z z2 ∧ zKm XM w w' ∧ (∀ b n v, R b n = some v → R' b n = some v) ∧ (∀ c, mk c ≤ mk' c ∧ mk' c ≤ mk c + (if c = b then 1 else 0)) ∧ (F = id ∨ ∃ D' goal, zDw D' ∧ D'.1 2 = 0 ∧ F = fun g => nGo E b g D' (rt T Wy b goal)) := by
  obtain ⟨hp, hR, hW⟩ := hp
  have h4 : D.1 2 = 1 → df D = 0 → 4 ≤ dl D := fun k f => by
    obtain ⟨-, -, -, -, -, h6, h7⟩ := hPD
    have := h7 (Or.inl k)
    rcases h6 f with h | h <;> omega
  by_cases ce : D.1 2 = 1 ∧ df D = 0 ∧ tha T b (D.1 0) = false
  · obtain ⟨e1, e2, e3⟩ := ce
    obtain ⟨i, hi, hi10⟩ := hWo e1 e2 e3
    obtain ⟨v1, v2, v3⟩ := hp.1.2.1.2.2.2.2.2.2.1 b i hb hi
    have hmk := hR.2 b hb
    have hmono := rgNew_mono (D := dErr (tq T b i) D (Int32.ofNat (mk b)) why (zgA z 125 0)) (zRg_free hR b)
    have hp' := zPai2_mono (P' := zPd T (rgNew R b (mk b) (dErr (tq T b i) D (Int32.ofNat (mk b)) why (zgA z 125 0)))) (fun G hG => zPd_mono hmono hG) hp
    obtain ⟨z1, z2, w', F, r1, r2, r3, r4, r5, r6, -, r8, -, r10, r11⟩ := zp_back (b := b) (x := x) (d := d) (D := D) (why := why) (N := N) hp' (zPd_cl T _) hb (fun _ _ _ => hx) hDc hPD.1 hd hX hDm h4 (fun _ _ _ => ⟨i, hi, hi10, by rw [hmk.1]; exact zPd_err v1 v2 (by omega)⟩) hN
    refine ⟨z1, z2, w', F, _, _, r1, r2, r3, ⟨r4, zRg_new hR hm hb r8.1 (r10 e1 e2 e3), fun q hq G hG => ?_⟩, r5, r6, hmono, fun c => ?_, ?_⟩
    · rcases r11 with r11 | ⟨i', -, r11⟩
      · rw [r11] at hG; exact hW q hq G hG
      · rw [r11] at hG
        cases ho : rt T Wy b (D.1 0) with
        | none => rw [ho] at hG; exact hW q hq G hG
        | some v =>
          rw [ho] at hG
          rcases nHand_mem hG with hG | hG
          · exact hW q hq G hG
          · rw [hG.2]; exact fun y => absurd (show (0 : Int32) = 1 from y) (by decide)
    · show mk c ≤ (if c = b then mk b + 1 else mk c) ∧ (if c = b then mk b + 1 else mk c) ≤ _
      by_cases y : c = b
      · rw [if_pos y, if_pos y, y]; omega
      · rw [if_neg y, if_neg y]; omega
    · rcases r11 with r11 | ⟨i', -, r11⟩
      · exact Or.inl r11
      · exact Or.inr ⟨_, _, zDw_err _ _ _ _ _, rfl, r11⟩
  · have how : D.1 2 = 1 → df D = 0 → tha T b (D.1 0) = true := fun a c => by
      cases e : tha T b (D.1 0) with
      | true => rfl
      | false => exact absurd ⟨a, c, e⟩ ce
    obtain ⟨z1, z2, w', F, r1, r2, r3, r4, r5, r6, -, -, r9, -, r11⟩ := zp_back (b := b) (x := x) (d := d) (D := D) (why := why) (N := N) hp (zPd_cl T _) hb (fun _ _ _ => hx) hDc hPD.1 hd hX hDm h4 (fun a c e => absurd ⟨a, c, e⟩ ce) hN
    refine ⟨z1, z2, w', F, R, mk, r1, r2, r3, ⟨r4, zRg_same hR (r9 how), fun q hq G hG => ?_⟩, r5, r6, fun _ _ _ h => h, fun c => ⟨Nat.le_refl _, Nat.le_add_right _ _⟩, ?_⟩
    · rcases r11 with r11 | ⟨i', -, r11⟩
      · rw [r11] at hG; exact hW q hq G hG
      · rw [r11] at hG
        cases ho : rt T Wy b (D.1 0) with
        | none => rw [ho] at hG; exact hW q hq G hG
        | some v =>
          rw [ho] at hG
          rcases nHand_mem hG with hG | hG
          · exact hW q hq G hG
          · rw [hG.2]; exact fun y => absurd (show (0 : Int32) = 1 from y) (by decide)
    · rcases r11 with r11 | ⟨i', -, r11⟩
      · exact Or.inl r11
      · exact Or.inr ⟨_, _, zDw_err _ _ _ _ _, rfl, r11⟩
