/-! all askings of a box: all of the world -/
section
variable {T : Tp} {z0 : St} {b N : Nat}
theorem zS4_asks126 (hc : zTc T) (hb : b < tb T) {K2 : Nat → Nat → Int32 → St → Option (Int32 × St)} {K26 : Nat → Nat → Int32 → Nat → Int32 → Int32 → St → Option (Int32 × St)} {x2 x4 x5 x6 x8 : Int32} {q : Nat} (hK : ∀ v u, zS4 T z0 u → zS4w T z0 (K26 0 b x2 q x4 v u)) : ∀ (n : Nat) (x9 : Int32) (z : St), zS4 T z0 z → zS4w T z0 (fX11_doAskings_126 N K2 K26 n 0 b x2 q x4 x5 x6 x8 x9 z) := by
  intro n
  induction n with
  | zero => intro x9 z h r z' e; cases e
  | succ n ih =>
    intro x9 z h
    have h191 : ∀ {u : St}, zS4 T z0 u → zS4w T z0 (fX11_doAskings_191 N K2 K26 0 b x2 q x4 x5 u) := fun hu => by
      unfold fX11_doAskings_191
      exact zS4_l (hK _ _ hu)
    have h185 : ∀ {u : St}, zS4 T z0 u → zS4w T z0 (fX11_doAskings_185 N K2 K26 (fX11_doAskings_126 N K2 K26 n) 0 b x2 q x4 x5 x6 x8 x9 u) := fun hu => by
      unfold fX11_doAskings_185
      exact zS4_l (ih _ _ hu)
    show zS4w T z0 (fX11_doAskings_126b N K2 K26 (fX11_doAskings_126 N K2 K26 n) 0 b x2 q x4 x5 x6 x8 x9 z)
    unfold fX11_doAskings_126b
    refine zS4_i (fun _ => h191 h) (fun _ => zS4_c (zS4_f h (wX8_firstWaitingFor (Nat.and_self _) (zFr_rf _ _)) (by decide) (by decide)) fun r2 z3 h3 => zS4_i (fun _ => ?_) (fun _ => h191 h3))
    refine zS4_c (zS4_f h3 (wX8_takeWaiting (Nat.and_self _) (zFr_rf _ _)) (by decide) (by decide)) fun r7 z8 h8 => zS4_d fun a11 _ => zS4_c (zS4_comeBack hc hb h8) fun _ z13 h13 => zS4_i (fun _ => ?_) (fun _ => h185 h13)
    have h17 : zS4 T z0 (zsI z13 11 15 0 0) := zS4_fr h13 (M := 0x800000000000000000000000000000000000000000000000000000000000000000000000000000000000000000000000000000000000000000000000000000000000000000000000000000000000000000000000000000000000) (zFr_I (zFr_rf _ _) (by decide)) (by decide) (by decide)
    exact zS4_l (zS4_l (zS4_d fun a19 _ => zS4_c (zS4_sendOff hc hb h17) fun _ z21 h21 => h185 h21))
theorem zS4_asks26 (hc : zTc T) (hb : b < tb T) {K2 : Nat → Nat → Int32 → St → Option (Int32 × St)} {x2 x4 : Int32} {q : Nat} (hK : ∀ v u, zS4 T z0 u → zS4w T z0 (K2 0 b v u)) : ∀ (n : Nat) (x5 : Int32) (z : St), zS4 T z0 z → zS4w T z0 (fX11_doAskings_26 N K2 n 0 b x2 q x4 x5 z) := by
  intro n
  induction n with
  | zero => intro x5 z h r z' e; cases e
  | succ n ih =>
    intro x5 z h
    have h191 : ∀ {u : St}, zS4 T z0 u → zS4w T z0 (fX11_doAskings_191 N K2 (fX11_doAskings_26 N K2 n) 0 b x2 q x4 x5 u) := fun hu => by
      unfold fX11_doAskings_191
      exact zS4_l (ih _ _ hu)
    have h98 : ∀ {x6 x7 : Int32} {u : St}, zS4 T z0 u → zS4w T z0 (fX11_doAskings_98 N K2 (fX11_doAskings_26 N K2 n) 0 b x2 q x4 x5 x6 x7 u) := fun hu => by
      unfold fX11_doAskings_98
      exact zS4_i (fun _ => zS4_c (zS4_f hu (wX8_countWaitingFor (Nat.and_self _) (zFr_rf _ _)) (by decide) (by decide)) fun _ _ h3 => zS4_c (zS4_f h3 (wX8_endAsking (Nat.and_self _) (zFr_rf _ _)) (by decide) (by decide)) fun _ _ h7 => zS4_asks126 hc hb (fun v u hu => ih v u hu) N _ _ h7) (fun _ => h191 hu)
    have h82 : ∀ {x6 x7 : Int32} {u : St}, zS4 T z0 u → zS4w T z0 (fX11_doAskings_82 N K2 (fX11_doAskings_26 N K2 n) 0 b x2 q x4 x5 x6 x7 u) := fun hu => by
      unfold fX11_doAskings_82
      exact zS4_l (zS4_d fun _ _ => zS4_c (zS4_f hu (wX5_addressOf (Nat.and_self _) (zFr_rf _ _)) (by decide) (by decide)) fun _ _ h4 => zS4_c (zS4_f h4 (wX11_putNote (Nat.and_self _) (zFr_rf _ _)) (by decide) (by decide)) fun _ _ h8 => h98 h8)
    show zS4w T z0 (fX11_doAskings_26b N K2 (fX11_doAskings_26 N K2 n) 0 b x2 q x4 x5 z)
    unfold fX11_doAskings_26b
    exact zS4_i (fun _ => zS4_l (hK _ _ h)) (fun _ => zS4_k (zS4_l (zS4_c (zS4_f h (wX8_isAsked (Nat.and_self _) (zFr_rf _ _)) (by decide) (by decide)) fun _ _ h6 => zS4_i (fun _ => zS4_k (zS4_l (zS4_i (fun _ => h82 h6) (fun _ => zS4_i (fun _ => h98 h6) (fun _ => h82 h6))))) (fun _ => h191 h6))))
theorem zS4_asks2 (hc : zTc T) (hb : b < tb T) : ∀ (n : Nat) (x2 : Int32) (z : St), zS4 T z0 z → zS4w T z0 (fX11_doAskings_2 N n 0 b x2 z) := by
  intro n
  induction n with
  | zero => intro x2 z h r z' e; cases e
  | succ n ih =>
    intro x2 z h
    show zS4w T z0 (fX11_doAskings_2b N (fX11_doAskings_2 N n) 0 b x2 z)
    unfold fX11_doAskings_2b
    exact zS4_i (fun _ => zS4_s h) (fun _ => zS4_k (zS4_l (zS4_d fun a4 _ => zS4_c (zS4_f h (wX8_rememberAsked (Nat.and_self _) (zFr_rf _ _)) (by decide) (by decide)) fun _ _ h6 => zS4_asks26 hc hb (fun v u hu => ih v u hu) N _ _ h6)))
end
/-- all ports of box b; mk grows at most 136 a port -/
theorem zp_asks {T : Tp} {E : Ev} {Wy : Wyt} {K : Int32 → Int32 → Int32 → Prop} {TS TA TB : List Nat} {b N : Nat} {x1 : Int32} {K16 : Nat → Int32 → St → Option (Int32 × St)} (hc : zTc T) (hb : b < tb T) (hN : 1481 < N) :
    ∀ (m p n n' : Nat) (z w : St) (g : Sg) (R : Rg) (mk : Nat → Nat), p + m = tp T b → m < n → m < n' → mk b + 136 * m < 2147483646 → zIp z w T E g g Wy R mk K [] [] TS TA TB →
    ∃ z' w' g' R' mk', fX11_doAskings_2 N n 0 b (Int32.ofNat p) z = some (0, z') ∧ fX19_tick_33 N K16 n' 0 x1 (some b) (Int32.ofNat p) w = fX19_tick_59 N K16 N 0 x1 b 0 w' ∧ zIp z' w' T E g' g' Wy R' mk' K [] [] TS TA TB ∧ zKe [] z z' ∧ (∀ c k v, R c k = some v → R' c k = some v) ∧ (∀ c, mk c ≤ mk' c ∧ mk' c ≤ mk c + (if c = b then 136 * m else 0)) ∧ zFr mNwC z z' ∧ zFr mNwM w w' ∧ (∀ QF QW QD, zQcl T E QF QW QD → (∀ D p t, D.1 2 = 0 → tv T p → t < 8 → QD p (Int32.ofNat t) D) → zQI T QF QW g → zQI T QF QW g') ∧ ∀ i, p ≤ i → i < tp T b → ∀ x, x ∈ gA g' (tq T b i) → eN E < x.2 + 200 := by
  intro m
  induction m with
  | zero =>
    intro p n n' z w g R mk hpm h1 h2 hm hp
    obtain ⟨n, rfl⟩ : ∃ j, n = j + 1 := ⟨n - 1, by omega⟩
    obtain ⟨n', rfl⟩ : ∃ j, n' = j + 1 := ⟨n' - 1, by omega⟩
    have e1 := (hp.1.1.1.2.1.2 b hb).2.2.2.1
    have e2 := (hp.1.2.1.1.2.1.2 b hb).2.2.2.1
    have hpp : p = tp T b := by omega
    subst hpp
    refine ⟨z, w, g, R, mk, ?_, ?_, hp, fun _ _ => ⟨fun _ => rfl, fun _ => rfl⟩, fun _ _ _ y => y, fun c => ⟨Nat.le_refl _, Nat.le_add_right _ _⟩, zFr_rf _ _, zFr_rf _ _, fun _ _ _ _ _ y => y, fun i i1 i2 => by omega⟩
    · show fX11_doAskings_2b N (fX11_doAskings_2 N n) 0 b (Int32.ofNat (tp T b)) z = _
      unfold fX11_doAskings_2b
      rw [e1, if_pos (Int32.le_refl _)]
    · show fX19_tick_33b N K16 (fX19_tick_33 N K16 n') 0 x1 (some b) (Int32.ofNat (tp T b)) w = _
      unfold fX19_tick_33b
      rw [zd_e, e2, if_pos (Int32.le_refl _)]
  | succ m ih =>
    intro p n n' z w g R mk hpm h1 h2 hm hp
    obtain ⟨n, rfl⟩ : ∃ j, n = j + 1 := ⟨n - 1, by omega⟩
    obtain ⟨n', rfl⟩ : ∃ j, n' = j + 1 := ⟨n' - 1, by omega⟩
    have hpp : p < tp T b := by omega
    have t6 := tp_le hc hb
    obtain ⟨z1, w1, g1, R1, mk1, a1, a2, a3, a4, a5, a6, a7, a8, a9, a10, a11⟩ := zIp_askPort (n := n) (N := N) hc hb hpp (by simp) hN (by omega) hp
    have bm := (a7 b).2
    rw [if_pos rfl] at bm
    obtain ⟨z', w', g', R', mk', b1, b2, b3, b4, b5, b6, b7, b8, b9, b10⟩ := ih (p + 1) n n' z1 w1 g1 R1 mk1 (by omega) (by omega) (by omega) (by omega) a3
    have e2 := hp.1.2.1.1.2.1.2 b hb
    refine ⟨z', w', g', R', mk', a1.trans b1, ?_, b3, fun u hu => ⟨fun j => ((b4 u hu).1 j).trans ((a4 u hu).1 j), fun i => ((b4 u hu).2 i).trans ((a4 u hu).2 i)⟩, fun c k v y => b5 c k v (a6 c k v y), fun c => ?_, zFr_tr (zFr_w a8 (by decide)) b7, zFr_tr (zFr_w a9 (by decide)) b8, fun QF QW QD cl er y => b9 QF QW QD cl er (a10 QF QW QD cl er y), fun i i1 i2 x hx => ?_⟩
    · show fX19_tick_33b N K16 (fX19_tick_33 N K16 n') 0 x1 (some b) (Int32.ofNat p) w = _
      unfold fX19_tick_33b
      rw [zd_e, e2.2.2.2.1, if_neg (by rw [zo_le (by omega) (by omega)]; omega), zkk (by omega) (by omega), zl_e, zoC (by omega), e2.2.2.2.2 p hpp, zd_e, a2, zc_e, zl_e, zo_i1]
      exact b2
    · obtain ⟨c1, c2⟩ := a7 c
      obtain ⟨d1, d2⟩ := b6 c
      refine ⟨by omega, ?_⟩
      by_cases e : c = b
      · rw [if_pos e] at c2 d2 ⊢; omega
      · rw [if_neg e] at c2 d2 ⊢; omega
    · by_cases e : i = p
      · subst e
        have cl : zQcl T E (fun _ => True) (fun q a D => D.1 2 = 5 → q = tq T b i → eN E < a + 200) (fun _ _ _ => True) := ⟨fun _ _ _ _ _ _ _ _ _ _ _ _ _ => trivial, fun q s D a _ _ _ _ _ h _ e => h rfl e, fun _ _ _ _ _ _ _ _ _ _ _ _ _ _ => trivial, fun _ _ _ _ _ _ _ _ => trivial, fun q _ _ _ => by omega⟩
        have wk : ∀ q, tv T q → ∀ D, D ∈ gW g1 q → ¬ D.1 2 = 5 := fun q hq D hD => by
          obtain ⟨⟨-, -, -, p4, -⟩, -⟩ := a3
          exact (p4.2.1 q hq D hD).1
        have q1 : zQI T (fun _ => True) (fun q a D => D.1 2 = 5 → q = tq T b i → eN E < a + 200) g1 := ⟨fun _ _ => trivial, fun q hq D hD k5 => absurd k5 (wk q hq D hD), fun q hq x hx _ e => by rw [e] at hx; exact a11 x hx⟩
        have q2 := b9 _ _ _ cl (fun _ _ _ _ _ _ => trivial) q1
        exact q2.2.2 (tq T b i) (hc.2.2.2.2.2.2.1 b i hb hpp).1 x hx rfl rfl
      · exact b10 i (by omega) i2 x hx
