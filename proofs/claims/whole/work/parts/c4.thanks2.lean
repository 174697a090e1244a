/-! routers: thanks are sent, both sides, one after the other -/
def PDr (Q : Qt) (T : Tp) (q : Nat) (to : Int32) (D : Dg) : Prop := (D.1 2 = 2 ∨ D.1 2 = 3 ∨ D.1 2 = 4) ∧ D.1 0 = zad q ∧ zRkD Q T q D ∧ zDw D ∧ df D = 0 ∧ (to = -1 ∨ ∃ t, t < 8 ∧ to = Int32.ofNat t ∧ t ≠ q % 8)
theorem zFC_kdc {b c : Nat} {z z' : St} (h : zKd b z z') : zFC c z z' := ⟨fun k j o a _ _ => h.1 k j o (by omega), fun k o i a _ => h.2.1 k o i (by omega) (by omega), fun u u1 _ => ⟨fun j => h.1 7 j u (by omega), fun i => h.2.1 125 u i (by omega) (by omega)⟩⟩
theorem ze13 {z y : St} {T : Tp} {b : Nat} (hT : zTC z T) (h : zKd b z y) : zgR y 11 13 0 = some 0 := (h.2.2.2.2 11 13 0).trans hT.1.2.2.1
theorem zBgF_C {y : St} {kind : Int32} {len : Nat} {f : Nat → Int32} (h : zBgF y kind len) : zBgF (zsC y 125 0 f) kind len := h
theorem zof_and {v : Nat} (h : v < 65536) : Int32.ofNat v &&& (65535 : Int32) = Int32.ofNat v := by
  rw [zal_e]
  unfold zal
  rw [zun_of (by omega), Nat.mod_eq_of_lt h]
theorem zp_thank1 {Q : Qt} {z w : St} {T : Tp} {E : Ev} {g : Sg} {Wy : Wyt} {R : Rg} {mk : Nat → Nat} {K : Int32 → Int32 → Int32 → Prop} {TS TA TB : List Nat} {b i key of_ num nn nn' N : Nat} {L : List (Nat × Nat × Nat)} (hp : zIp z w T E g g Wy R mk K [] [] TS TA TB) (hb : b < tb T) (hr : tr T b = true) (hm : mk b < 2147483646) (hok : zRok Q T R) (hC : zRCt z b L) (hM : zRmT w T b L) (hl : L.length ≤ 64) (hi : L[i]? = some (key, of_, num)) (hk : zKok T b key) (ho : of_ < 16) (hn1 : 1 ≤ num) (hn2 : num ≤ 16000000) (hN : 1481 < N) :
    ∃ z' w' g' R', fX11_sendThanks_7 N (nn + 1) 0 b (some b) (Int32.ofNat i) z = fX11_sendThanks_7 N nn 0 b (some b) (Int32.ofNat (i + 1)) z' ∧ fX19_routerSpeaks_51 N (nn' + 1) 0 b (Int32.ofNat L.length) (Int32.ofNat i) w = fX19_routerSpeaks_51 N nn' 0 b (Int32.ofNat L.length) (Int32.ofNat (i + 1)) w' ∧ zIp z' w' T E g' g' Wy R' (zupd mk b (mk b + 1)) K [] [] TS TA TB ∧ zRok Q T R' ∧ (∀ c n v, R c n = some v → R' c n = some v) ∧ zRch T E b (PDr Q T) g g' ∧ (∀ c, zFC c z z') ∧ ∀ c, zFM c w w' := by
  have hT := hp.1.1.1
  have hc := hp.1.1.2.1
  have hMT := hp.1.2.1.1
  have t6 := tp_le hc hb
  have b16 := hc.1
  have i64 := (List.getElem?_eq_some_iff.mp hi).1
  have i64' : i < 64 := by omega
  obtain ⟨k1, k2, k3, k4, p, hpo⟩ := hk
  have k96 : key < 96 := by omega
  have v := tv_q hc hb k1
  have vw := (hc.2.2.2.2.2.2.1 b (key / 16) hb k1).2.1
  obtain ⟨pv, pw, p8, -, -⟩ := tpo_some hc k2 hpo
  obtain ⟨c136, c137, c138⟩ := hC.2 i _ hi
  have c136 : zgA z 136 b i = Int32.ofNat key := c136
  have c137 : zgA z 137 b i = Int32.ofNat of_ := c137
  have c138 : zgA z 138 b i = Int32.ofNat num := c138
  obtain ⟨m152, ⟨p', m153a, m153⟩, m154⟩ := hM.2 i _ hi
  have m152 : zgA w 152 b i = Int32.ofNat (key / 16) := m152
  have m154 : zgA w 154 b i = (Int32.ofNat of_ <<< ((24 : Int32) &&& 31)) ||| Int32.ofNat num := m154
  have m153a : tpo T (key % 16) (tq T b (key / 16) / 8) = some p' := m153a
  obtain rfl : p = p' := by rw [hpo] at m153a; exact Option.some.inj m153a
  generalize hq : tq T b (key / 16) = q at *
  have ps : p % 8 ≠ q % 8 := fun e => k4 (by
    have : p = q := by omega
    rw [← pw, this, vw])
  -- the class makes it
  obtain ⟨z1, h1⟩ : ∃ y, y = zBg z 0 4 (Int32.ofNat 8) := ⟨_, rfl⟩
  obtain ⟨z2, h2⟩ : ∃ y, y = zsC z1 125 0 (p2 (zgA z1 125 0) 0 (Int32.ofNat of_)) := ⟨_, rfl⟩
  obtain ⟨z3, h3⟩ : ∃ y, y = zsC z2 125 0 (p4 (zgA z2 125 0) 2 (Int32.ofNat num)) := ⟨_, rfl⟩
  have q1 : fX7_begin N 0 (4 : Int32) (8 : Int32) z = some (0, z1) := by rw [h1]; exact zc_begin0
  have q2 : fX7_put2 N 0 (0 : Int32) (Int32.ofNat of_) z1 = some (0, z2) := by rw [h2]; exact zc_put2 (i := 0) (by decide)
  have q3 : fX7_put4 N 0 (2 : Int32) (Int32.ofNat num) z2 = some (0, z3) := by rw [h3]; exact zc_put4 (i := 2) (by decide) (by omega)
  have kd1 : zKd b z z1 := by rw [h1]; exact zKd_Bg
  have kd2 : zKd b z z2 := zKd_tr kd1 (by rw [h2]; exact zKd_C)
  have kd3 : zKd b z z3 := zKd_tr kd2 (by rw [h3]; exact zKd_C)
  have g1 : zBgF z1 4 8 := by rw [h1]; exact zBgF_0 (by decide)
  have g3 : zBgF z3 4 8 := by rw [h3, h2]; exact zBgF_C (zBgF_C g1)
  have n3 : zgA z3 113 b 2 = Int32.ofNat (mk b) := by
    rw [h3, zgA_sC, if_neg (by omega), h2, zgA_sC, if_neg (by omega), h1]
    exact (hp.2.1.2 b hb).1
  obtain ⟨B, hB⟩ : ∃ B, B = zgA z3 125 0 := ⟨_, rfl⟩
  have B0 : g2 B 0 = Int32.ofNat of_ := by
    rw [hB, h3, zgA_sCs, g2_o4 _ _ (by omega), h2, zgA_sCs, g2_p2, zof_and (by omega)]
  have B2 : g4 B 2 = Int32.ofNat num := by rw [hB, h3, zgA_sCs, g4_p4]
  have A3 : ∀ y : St, zKd b z y → ∀ k, 131 ≤ k → k ≤ 138 → zgA y k b i = zgA z k b i := fun y hy k a1 a2 => hy.2.1 k b i (by omega) (by omega)
  have ad := zc_addr (N := N) (zTC_fr (zKd_f kd3) (by decide) hT) hc hb k96 k1 k2 (by rw [hq]; exact hpo) (by omega)
  rw [hq, n3] at ad
  obtain ⟨z4, h4⟩ : ∃ y, y = zAdr z3 b q (zad p) (Int32.ofNat (mk b) + 1) (Int32.ofNat (mk b)) := ⟨_, rfl⟩
  rw [← h4] at ad
  have kd4 : zKd b z z4 := zKd_tr kd3 (by rw [h4]; exact zKd_adr)
  have D4 : zPC 11 z4 0 (dMk q (zad p) 4 (Int32.ofNat (mk b)) 8 B) := by rw [h4, hB]; exact zPC_adr g3
  have t4 : zgA z4 113 b 2 = zgA z 113 b 2 + 1 := by rw [h4, zAdr_n, (hp.2.1.2 b hb).1]
  -- the model makes it
  have w0 : zgI w 12 0 b = Int32.ofNat b := (hMT.2.1.2 b hb).2.1
  have w4 : zgI w 12 4 b = Int32.ofNat (mk b) := by rw [← (hp.1.2.2.2.2.2.2.1 b hb).1]; exact (hp.2.1.2 b hb).1
  obtain ⟨w1, w2, d, r1, r2, r3, r4, r5, r6, r7, r8, r9, r10, r11⟩ := zm_mkPlain (q := q) (len := 8) (n := mk b) (goal := zad p) (kind := 4) (told := (Int32.ofNat of_ <<< ((24 : Int32) &&& 31)) ||| Int32.ofNat num) (B := B) (N := N) hc (by simp) hp.1.2.1.2.2.2.2.1.2.2 w0 w4 (by omega) (Or.inr ⟨rfl, v, vw, by rw [B0, B2]⟩) (by omega)
  have r1 : fX19_make N 0 b (4 : Int32) (8 : Int32) (zad q) (zad p) w = some (Int32.ofNat d, w1) := r1
  obtain ⟨hp1, hPD, mono⟩ := zIp_made (len := 8) (q := q) (goal := zad p) (kind := 4) (B := B) hp hb hm v vw (by decide) (by omega) (by omega) kd4 t4 r5 r8 r9
  have kk : (dMk q (zad p) 4 (Int32.ofNat (mk b)) 8 B).1 2 = 4 := rfl
  have rk : zRkD Q T q (dMk q (zad p) 4 (Int32.ofNat (mk b)) 8 B) := Or.inr (Or.inr ⟨rfl, of_, num, ho, hn1, hn2, B0, B2, (dMk_w (by omega)).1⟩)
  obtain ⟨z5, w3, s1, s2, s3, s4, s5, s6, s7⟩ := zIp_hand (s := p % 8) (N := N) hp1 v (by omega) D4 hPD (by rw [kk]; decide) List.mem_cons_self (by simp) r6 hN
  obtain ⟨w5, u1, u2, u3, u4⟩ := zIp_drop (N := N) s3
  rw [vw] at s3 u2
  refine ⟨z5, w5, _, _, ?_, ?_, u2, zRok_new v vw rfl rk hok, mono, ?_, fun c => ?_, fun c => ?_⟩
  · show fX11_sendThanks_7b N (fX11_sendThanks_7 N nn) 0 b (some b) (Int32.ofNat i) z = _
    unfold fX11_sendThanks_7b
    have e83 : zgI z4 8 3 p = Int32.ofNat (p % 8) := (kd4.1 8 3 p (by omega)).trans (hT.2.2.2 p pv).2.2.2.1
    have e112 : zgQ z4 112 b (key / 16) = some q := by rw [kd4.2.2.2.1, ← hq]; exact (hT.2.1.2 b hb).2.2.2.2.1 _ k1
    rw [zd_e, hC.1, if_neg (by rw [zo_le (by omega) (by omega)]; omega), zl_e, ze13 hT (zKd_rf b z), zd_e, q1, zc_e, ze13 hT kd1, zl_e, zkk i64' (by omega), zd_e, zoC (show i < 2147483648 by omega), A3 z1 kd1 137 (by omega) (by omega), c137, q2, zc_e, ze13 hT kd2, zl_e, zkk i64' (by omega), zd_e, A3 z2 kd2 138 (by omega) (by omega), c138, q3, zc_e, zkk i64' (by omega), A3 z3 kd3 136 (by omega) (by omega), c136, ad, zc_e, zo_e, zkk i64' (by omega), A3 z4 kd4 136 (by omega) (by omega), c136, zdv16 key k96, zkk (show key / 16 < 6 by omega) (by omega), zoC (show key / 16 < 2147483648 by omega), zl_e, e112, ze13 hT kd4, zl_e, zd_e, zd_e, e83, s1, zc_e]
    unfold fX11_sendThanks_98
    rw [zo_i1, zl_e]
  · show fX19_routerSpeaks_51b N (fX19_routerSpeaks_51 N nn') 0 b (Int32.ofNat L.length) (Int32.ofNat i) w = _
    unfold fX19_routerSpeaks_51b
    have e147 : zgQ w 147 b (key / 16) = some q := by rw [← hq]; exact (hMT.2.1.2 b hb).2.2.2.2 _ k1
    have e154 : zgA (zsA w1 172 0 (18 * d + 12) (Int32.ofNat b)) 154 b i = (Int32.ofNat of_ <<< ((24 : Int32) &&& 31)) ||| Int32.ofNat num := (r10 154 b i (by omega) (by omega)).trans m154
    have e153 : zgA w2 153 b i = zad p := (zFr_gA r8 (by decide) b i).trans m153
    have est : (zad p &&& (65535 : Int32)) - 1 = Int32.ofNat (p % 8) := by rw [zal_e, zad_al (tv_24 hc pv), zo_s1 (by omega)]; rfl
    rw [if_neg (by rw [zo_le (by omega) (by omega)]; omega), zkk i64' (by omega), zoC (show i < 2147483648 by omega), m152, zkk (show key / 16 < 6 by omega) (by omega), zoC (show key / 16 < 2147483648 by omega), zl_e, e147, zd_e, zm_address hMT hc v N, zc_e, zkk i64' (by omega), m153, r1, zc_e, r2, zc_e, zkk i64' (by omega), e154, r3, zc_e, zkk i64' (by omega), e153, est, s2, zc_e, u1, zc_e, zo_i1, zl_e]
  · intro I a _ h
    exact a g q (p % 8) _ v vw (by omega) ⟨Or.inr (Or.inr rfl), rfl, rk, zDw_mk (by omega) (by omega), rfl, Or.inr ⟨p % 8, by omega, rfl, ps⟩⟩ h
  · exact zFC_tr (zFC_kdc kd4) (zFC_hand s6 s4)
  · exact zFM_tr (zFM_make r8) (zFM_tr (zFM_deliver s7) (zFM_drop u4))
