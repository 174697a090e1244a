/-! routers: all that is due is told, both sides -/
def zHs (H H' : List Nb) : Prop := H'.map (fun n => (n.1, n.2.1, n.2.2.1)) = H.map (fun n => (n.1, n.2.1, n.2.2.1))
theorem zHs_len {H H' : List Nb} (h : zHs H H') : H'.length = H.length := by
  have := congrArg List.length h
  rw [List.length_map, List.length_map] at this
  exact this
theorem zHs_at {H H' : List Nb} (h : zHs H H') {i : Nat} {n : Nb} (hi : H[i]? = some n) : ∃ n', H'[i]? = some n' ∧ n'.1 = n.1 ∧ n'.2.1 = n.2.1 ∧ n'.2.2.1 = n.2.2.1 := by
  have e := congrArg (fun l => l[i]?) h
  simp only [List.getElem?_map, hi, Option.map_some] at e
  cases e2 : H'[i]? with
  | none => rw [e2] at e; cases e
  | some n' =>
    rw [e2] at e
    have e : (n'.1, n'.2.1, n'.2.2.1) = (n.1, n.2.1, n.2.2.1) := Option.some.inj e
    exact ⟨n', rfl, congrArg (fun x => x.1) e, congrArg (fun x => x.2.1) e, congrArg (fun x => x.2.2) e⟩
theorem zHs_sym {H H' : List Nb} (h : zHs H H') : zHs H' H := Eq.symm h
theorem zHs_tr {A B C : List Nb} (h1 : zHs A B) (h2 : zHs B C) : zHs A C := Eq.trans h2 h1
theorem zHs_mem {H H' : List Nb} (h : zHs H H') {n' : Nb} (hn : n' ∈ H') : ∃ n, n ∈ H ∧ n'.1 = n.1 ∧ n'.2.1 = n.2.1 ∧ n'.2.2.1 = n.2.2.1 := by
  obtain ⟨i, hi, e⟩ := List.getElem_of_mem hn
  obtain ⟨n, a1, a2, a3, a4⟩ := zHs_at (zHs_sym h) (by rw [List.getElem?_eq_getElem hi, e])
  exact ⟨n, List.mem_of_getElem? a1, a2.symm, a3.symm, a4.symm⟩
theorem zHs_due (H : List Nb) (key r t : Nat) : zHs H (hDue H key r t) := by
  unfold zHs hDue hUpd
  rw [List.map_map]
  refine List.map_congr_left (fun n _ => ?_)
  show ((fun n : Nb => (n.1, n.2.1, n.2.2.1)) (if n.1 = key then (n.1, n.2.1, n.2.2.1, zupd n.2.2.2 r t) else n)) = _
  split <;> rfl
theorem zRCh_hs {z : St} {b : Nat} {H H' : List Nb} (h : zHs H H') (hC : zRCh z b H) : zRCh z b H' := ⟨by rw [zHs_len h]; exact hC.1, fun i n' hi => by
  obtain ⟨n, a1, a2, -, -⟩ := zHs_at (zHs_sym h) hi
  rw [← a2]; exact hC.2 i n a1⟩
/-- a while of speaking of router b: m datagrams at most -/
def zSp (Q : Qt) (z w z' w' : St) (T : Tp) (E : Ev) (b : Nat) (g g' : Sg) (Wy : Wyt) (R R' : Rg) (mk mk' : Nat → Nat) (K : Int32 → Int32 → Int32 → Prop) (TS TA TB : List Nat) (H H' : List Nb) (ids : Nat → Nat) (Ba : Nat → Option Ad) (m : Nat) : Prop :=
  (zIp z' w' T E g' g' Wy R' mk' K [] [] TS TA TB ∧ zRok Q T R' ∧ (∀ c n v, R c n = some v → R' c n = some v) ∧ zRch T E b (PDr Q T) g g' ∧ ∀ c, mk c ≤ mk' c ∧ mk' c ≤ mk c + (if c = b then m else 0)) ∧ (zRCk z' b H' ∧ zRmI w' b H' ids ∧ zHn H' ∧ zHs H H' ∧ ∀ n, n ∈ H' → ∀ k, k < 16 → n.2.2.2 k ≠ 0 → (Ba k).isSome = true) ∧ zFC b z z' ∧ zFM b w w'
theorem zSp_tr {Q : Qt} {z w z1 w1 z2 w2 : St} {T : Tp} {E : Ev} {b : Nat} {g g1 g2 : Sg} {Wy : Wyt} {R R1 R2 : Rg} {mk mk1 mk2 : Nat → Nat} {K : Int32 → Int32 → Int32 → Prop} {TS TA TB : List Nat} {H H1 H2 : List Nb} {ids : Nat → Nat} {Ba : Nat → Option Ad} {m n k : Nat} (hk : m + n ≤ k) (h1 : zSp Q z w z1 w1 T E b g g1 Wy R R1 mk mk1 K TS TA TB H H1 ids Ba m) (h2 : zSp Q z1 w1 z2 w2 T E b g1 g2 Wy R1 R2 mk1 mk2 K TS TA TB H1 H2 ids Ba n) : zSp Q z w z2 w2 T E b g g2 Wy R R2 mk mk2 K TS TA TB H H2 ids Ba k := by
  obtain ⟨⟨a1, a2, a3, a4, a5⟩, ⟨b1, b2, b3, b4, b5⟩, c1, c2⟩ := h1
  obtain ⟨⟨d1, d2, d3, d4, d5⟩, ⟨e1, e2, e3, e4, e5⟩, f1, f2⟩ := h2
  refine ⟨⟨d1, d2, fun c n v h => d3 c n v (a3 c n v h), zRch_tr a4 d4, fun c => ?_⟩, ⟨e1, e2, e3, zHs_tr b4 e4, e5⟩, zFC_tr c1 f1, zFM_tr c2 f2⟩
  have u := a5 c
  have v := d5 c
  by_cases y : c = b
  · rw [if_pos y] at u v ⊢; omega
  · rw [if_neg y] at u v ⊢; omega
theorem zSp_0 {Q : Qt} {z w : St} {T : Tp} {E : Ev} {b : Nat} {g : Sg} {Wy : Wyt} {R : Rg} {mk : Nat → Nat} {K : Int32 → Int32 → Int32 → Prop} {TS TA TB : List Nat} {H : List Nb} {ids : Nat → Nat} {Ba : Nat → Option Ad} {m : Nat} (hp : zIp z w T E g g Wy R mk K [] [] TS TA TB) (hok : zRok Q T R) (hk : zRCk z b H) (hM : zRmI w b H ids) (hH : zHn H) (h8 : ∀ n, n ∈ H → ∀ k, k < 16 → n.2.2.2 k ≠ 0 → (Ba k).isSome = true) : zSp Q z w z w T E b g g Wy R R mk mk K TS TA TB H H ids Ba m := ⟨⟨hp, hok, fun _ _ _ h => h, zRch_rf _, fun c => ⟨Nat.le_refl _, Nat.le_add_right _ _⟩⟩, ⟨hk, hM, hH, rfl, h8⟩, zFC_rf _ _, zFM_rf _ _⟩
/-- one friend is told all that is due there -/
theorem zp_tellR {Q : Qt} {T : Tp} {E : Ev} {Wy : Wyt} {K : Int32 → Int32 → Int32 → Prop} {TS TA TB : List Nat} {b i N : Nat} {ids : Nat → Nat} {Ba : Nat → Option Ad} {key : Nat} {K7 : Nat → Nat → Option Nat → Int32 → St → Option (Int32 × St)} {K155 : Nat → Nat → Int32 → St → Option (Int32 × St)} (hE4 : eN E ≤ 400000) (hb : b < tb T) (hr : tr T b = true) (hBw : zBw Ba) (hBe : ∀ r a, Ba r = some a → zEn a.2.2 ∧ Q r a.1 a.2.2) (hw : zKok T b key) (hN : 1481 < N) : ∀ (m r nn nn' : Nat) (z w : St) (g : Sg) (R : Rg) (mk : Nat → Nat) (H : List Nb) (n : Nb), r + m = 16 → m < nn → m < nn' → zIp z w T E g g Wy R mk K [] [] TS TA TB → zRok Q T R → mk b + m < 2147483646 → zRCk z b H → zRCb z b Ba → zRmI w b H ids → zRmB w b Ba → zHn H → (∀ n, n ∈ H → ∀ k, k < 16 → n.2.2.2 k ≠ 0 → (Ba k).isSome = true) → (∀ r x, r < 16 → x < 2400 → zgA w 150 b r = Int32.ofNat x → x ∈ TA) → H[i]? = some n → n.1 = key → n.2.2.1 = true →
    ∃ z' w' g' R' mk' H', fX11_sendDue_26 N K7 nn 0 b b (Int32.ofNat i) (Int32.ofNat key) (Int32.ofNat r) z = K7 0 b (some b) (Int32.ofNat (i + 1)) z' ∧ fX19_routerSpeaks_174 N K155 nn' 0 b (Int32.ofNat i) (some (ids i)) (Int32.ofNat r) w = K155 0 b (Int32.ofNat (i + 1)) w' ∧ zSp Q z w z' w' T E b g g' Wy R R' mk mk' K TS TA TB H H' ids Ba m := by
  intro m
  induction m with
  | zero =>
    intro r nn nn' z w g R mk H n hr' hn hn' hp hok hm hk hB hM hMB hH h8 hTA hi hkey hfr
    obtain ⟨nn, rfl⟩ : ∃ k, nn = k + 1 := ⟨nn - 1, by omega⟩
    obtain ⟨nn', rfl⟩ : ∃ k, nn' = k + 1 := ⟨nn' - 1, by omega⟩
    have : r = 16 := by omega
    subst this
    refine ⟨z, w, g, R, mk, H, ?_, ?_, zSp_0 hp hok hk hM hH h8⟩
    · show fX11_sendDue_26b N K7 (fX11_sendDue_26 N K7 nn) 0 b b (Int32.ofNat i) (Int32.ofNat key) (Int32.ofNat 16) z = _
      unfold fX11_sendDue_26b
      rw [if_pos (by decide), zo_i1, zl_e]
    · show fX19_routerSpeaks_174b N K155 (fX19_routerSpeaks_174 N K155 nn') 0 b (Int32.ofNat i) (some (ids i)) (Int32.ofNat 16) w = _
      unfold fX19_routerSpeaks_174b fX19_routerSpeaks_261
      rw [zd_e, (hM.2.2 i n hi).2.2.2.1, hfr, if_neg (by decide), if_pos (by decide), zo_i1, zl_e]
  | succ m ih =>
    intro r nn nn' z w g R mk H n hr' hn hn' hp hok hm hk hB hM hMB hH h8 hTA hi hkey hfr
    obtain ⟨nn, rfl⟩ : ∃ k, nn = k + 1 := ⟨nn - 1, by omega⟩
    obtain ⟨nn', rfl⟩ : ∃ k, nn' = k + 1 := ⟨nn' - 1, by omega⟩
    have r16 : r < 16 := by omega
    have hnm := List.mem_of_getElem? hi
    have k96 : n.1 < 96 := (hH.1.1 n hnm).1
    have tl := (hH.1.1 n hnm).2.2 r
    have efd : fd H key r = n.2.2.2 r := by
      unfold fd
      rw [← hkey, hAt_mem hH.1.2.1 hnm]
    have e135 : zgA z 135 (b * 96 + key) r = Int32.ofNat (n.2.2.2 r) := by rw [(hk.2 key (by omega)).2.2 r r16, efd]
    obtain ⟨-, -, -, c3, c4⟩ := hM.2.2 i n hi
    obtain ⟨d1, d2⟩ := c4 r r16
    have hnowC : zgI z 11 4 0 = Int32.ofNat (eN E) := hp.1.1.2.2.1.1
    have hnowM : zgI w 19 24 0 = Int32.ofNat (eN E) := hp.1.2.1.2.2.1.1
    have skip : ∀ (z1 w1 : St), fX11_sendDue_26 N K7 (nn + 1) 0 b b (Int32.ofNat i) (Int32.ofNat key) (Int32.ofNat r) z = fX11_sendDue_26 N K7 nn 0 b b (Int32.ofNat i) (Int32.ofNat key) (Int32.ofNat (r + 1)) z → fX19_routerSpeaks_174 N K155 (nn' + 1) 0 b (Int32.ofNat i) (some (ids i)) (Int32.ofNat r) w = fX19_routerSpeaks_174 N K155 nn' 0 b (Int32.ofNat i) (some (ids i)) (Int32.ofNat (r + 1)) w → ∃ z' w' g' R' mk' H', fX11_sendDue_26 N K7 (nn + 1) 0 b b (Int32.ofNat i) (Int32.ofNat key) (Int32.ofNat r) z = K7 0 b (some b) (Int32.ofNat (i + 1)) z' ∧ fX19_routerSpeaks_174 N K155 (nn' + 1) 0 b (Int32.ofNat i) (some (ids i)) (Int32.ofNat r) w = K155 0 b (Int32.ofNat (i + 1)) w' ∧ zSp Q z w z' w' T E b g g' Wy R R' mk mk' K TS TA TB H H' ids Ba (m + 1) := fun _ _ u v => by
      obtain ⟨z', w', g', R', mk', H', s1, s2, s3⟩ := ih (r + 1) nn nn' z w g R mk H n (by omega) (by omega) (by omega) hp hok (by omega) hk hB hM hMB hH h8 hTA hi hkey hfr
      exact ⟨z', w', g', R', mk', H', u.trans s1, v.trans s2, zSp_tr (m := 0) (by omega) (zSp_0 hp hok hk hM hH h8) s3⟩
    have startC : fX11_sendDue_26 N K7 (nn + 1) 0 b b (Int32.ofNat i) (Int32.ofNat key) (Int32.ofNat r) z = fX11_sendDue_26b N K7 (fX11_sendDue_26 N K7 nn) 0 b b (Int32.ofNat i) (Int32.ofNat key) (Int32.ofNat r) z := rfl
    have startM : fX19_routerSpeaks_174 N K155 (nn' + 1) 0 b (Int32.ofNat i) (some (ids i)) (Int32.ofNat r) w = fX19_routerSpeaks_174b N K155 (fX19_routerSpeaks_174 N K155 nn') 0 b (Int32.ofNat i) (some (ids i)) (Int32.ofNat r) w := rfl
    have n16 : ¬ (16 : Int32) ≤ Int32.ofNat r := by rw [show (16 : Int32) = Int32.ofNat 16 from rfl, zo_le (by omega) (by omega)]; omega
    by_cases ct : n.2.2.2 r = 0
    · refine skip z w ?_ ?_
      · rw [startC]
        unfold fX11_sendDue_26b fX11_sendDue_127
        rw [if_neg n16, zkk (show key < 96 by omega) (by omega), zkk r16 (by omega), zoC (show key < 2147483648 by omega), zoC (show r < 2147483648 by omega), e135, ct, zl_e, if_pos (show Int32.ofNat 0 = 0 from rfl), zo_i1, zl_e]
      · rw [startM]
        unfold fX19_routerSpeaks_174b fX19_routerSpeaks_255
        rw [zd_e, c3, hfr, if_neg (by decide), if_neg n16, zkk r16 (by omega), zoC (show r < 2147483648 by omega), d1, ct, if_pos (by decide), zo_i1, zl_e]
    · have d2 := d2 ct
      rw [decide_eq_true ct] at d1
      have bs := h8 n hnm r r16 ct
      obtain ⟨⟨num, t, L⟩, hBa⟩ := Option.isSome_iff_exists.mp bs
      by_cases cl : n.2.2.2 r ≤ eN E
      · have bw := hBw r _ hBa
        obtain ⟨z1, w1, g1, R1, s1, s2, s3, s4, s5, s6, s7, s8, s9, s10⟩ := zp_tell1 (i := i) (nn := nn) (nn' := nn') (K7 := K7) (K155 := K155) (N := N) hp hok (by omega) hE4 hb hr hk hB hM hMB hH (by rw [hkey]; exact hw) hBa ⟨bw.2.1, bw.2.2.1⟩ (hBe r _ hBa).1 (hBe r _ hBa).2 (fun x hx e => hTA r x r16 hx e) hi r16 hfr rfl ct cl hN
        rw [hkey] at s1 s7 s8
        have hHd : zHn (hDue H key r (eN E + 15)) := zHn_due (by omega) (Or.inl (by rw [← hkey, fn_mem hH.1.2.1 hnm]; exact hfr)) hH
        have h8d : ∀ n, n ∈ hDue H key r (eN E + 15) → ∀ k, k < 16 → n.2.2.2 k ≠ 0 → (Ba k).isSome = true := fun n' hn' k hk' hne => by
          obtain ⟨mm, m1, -, -, m4⟩ := hDue_mem hn'
          rcases m4 k with y | ⟨y, -⟩
          · rw [y] at hne; exact h8 mm m1 k hk' hne
          · rw [y]; exact bs
        obtain ⟨n1, a1, a2, -, a4⟩ := zHs_at (zHs_due H key r (eN E + 15)) hi
        have one : zSp Q z w z1 w1 T E b g g1 Wy R R1 mk (zupd mk b (mk b + 1)) K TS TA TB H (hDue H key r (eN E + 15)) ids Ba 1 := ⟨⟨s3, s4, s5, s6, fun c => by
          show mk c ≤ (if c = b then mk b + 1 else mk c) ∧ (if c = b then mk b + 1 else mk c) ≤ _
          by_cases y : c = b
          · rw [if_pos y, if_pos y, y]; omega
          · rw [if_neg y, if_neg y]; omega⟩, ⟨s7, s8, hHd, zHs_due _ _ _ _, h8d⟩, s9, s10⟩
        obtain ⟨z', w', g', R', mk', H', t1, t2, t3⟩ := ih (r + 1) nn nn' z1 w1 g1 R1 (zupd mk b (mk b + 1)) _ n1 (by omega) (by omega) (by omega) s3 s4 (by rw [zupd_s]; omega) s7 (zRCb_cg (fun k j hk' => s9.2.1 k b j (by omega) (by omega)) (fun o j _ _ => s9.2.1 104 o j (by omega) (by omega)) hB) s8 (zRmB_cg (fun k j hk' => s10.2.1 k b j (by omega) (by omega)) (fun x rr _ _ _ k _ => s10.2.1 178 0 _ (by omega) (by omega)) hMB) hHd h8d (fun rr x h1 h2 e => hTA rr x h1 h2 ((s10.2.1 150 b rr (by omega) (by omega)).symm.trans e)) a1 (by rw [a2, hkey]) (by rw [a4]; exact hfr)
        exact ⟨z', w', g', R', mk', H', s1.trans t1, s2.trans t2, zSp_tr (by omega) one t3⟩
      · refine skip z w ?_ ?_
        · rw [startC]
          unfold fX11_sendDue_26b fX11_sendDue_127
          rw [if_neg n16, zkk (show key < 96 by omega) (by omega), zkk r16 (by omega), zoC (show key < 2147483648 by omega), zoC (show r < 2147483648 by omega), e135, zl_e, if_neg (by rw [show (0 : Int32) = Int32.ofNat 0 from rfl, zo_eq (by omega) (by omega)]; exact ct), hnowC, if_neg (by rw [zo_le (by omega) (by omega)]; exact cl), zo_i1, zl_e]
        · rw [startM]
          unfold fX19_routerSpeaks_174b fX19_routerSpeaks_255
          have hMr := hMB r r16
          rw [hBa] at hMr
          obtain ⟨a, a1, a2, -, -⟩ := hMr
          rw [zd_e, c3, hfr, if_neg (by decide), if_neg n16, zkk r16 (by omega), zoC (show r < 2147483648 by omega), d1, if_neg (by decide), zkk r16 (by omega), a2, if_neg (zo_ne1 (by omega)), zkk r16 (by omega), hnowM, d2, if_pos (by rw [zo_lt (by omega) (by omega)]; omega), zo_i1, zl_e]
/-- who is no friend is told nothing -/
theorem zc_tellNo {z : St} {b i key N : Nat} {H : List Nb} {K7 : Nat → Nat → Option Nat → Int32 → St → Option (Int32 × St)} (hk : zRCk z b H) (h96 : key < 96) (h0 : ∀ r, r < 16 → fd H key r = 0) (hN : 16 < N) : fX11_sendDue_26 N K7 N 0 b b (Int32.ofNat i) (Int32.ofNat key) (Int32.ofNat 0) z = K7 0 b (some b) (Int32.ofNat (i + 1)) z := by
  refine zlp0 (G := fun n' r => fX11_sendDue_26 N K7 n' 0 b b (Int32.ofNat i) (Int32.ofNat key) (Int32.ofNat r) z) (r := K7 0 b (some b) (Int32.ofNat (i + 1)) z) (k := 16) (n := N) hN ?_ ?_
  · intro n' r hr
    show fX11_sendDue_26b N K7 (fX11_sendDue_26 N K7 n') 0 b b (Int32.ofNat i) (Int32.ofNat key) (Int32.ofNat r) z = _
    unfold fX11_sendDue_26b fX11_sendDue_127
    rw [if_neg (by rw [show (16 : Int32) = Int32.ofNat 16 from rfl, zo_le (by omega) (by omega)]; omega), zkk h96 (by omega), zkk hr (by omega), zoC (show key < 2147483648 by omega), zoC (show r < 2147483648 by omega), (hk.2 key h96).2.2 r hr, h0 r hr, zl_e, if_pos (show Int32.ofNat 0 = 0 from rfl), zo_i1, zl_e]
  · intro n'
    show fX11_sendDue_26b N K7 (fX11_sendDue_26 N K7 n') 0 b b (Int32.ofNat i) (Int32.ofNat key) (Int32.ofNat 16) z = _
    unfold fX11_sendDue_26b
    rw [if_pos (by decide), zo_i1, zl_e]
theorem zp_tellAll {Q : Qt} {T : Tp} {E : Ev} {Wy : Wyt} {K : Int32 → Int32 → Int32 → Prop} {TS TA TB : List Nat} {b N : Nat} {ids : Nat → Nat} {Ba : Nat → Option Ad} (hE4 : eN E ≤ 400000) (hb : b < tb T) (hr : tr T b = true) (hBw : zBw Ba) (hBe : ∀ r a, Ba r = some a → zEn a.2.2 ∧ Q r a.1 a.2.2) (hN : 1481 < N) : ∀ (m i nn nn' : Nat) (z w : St) (g : Sg) (R : Rg) (mk : Nat → Nat) (H : List Nb), i + m = H.length → m < nn → m < nn' → zIp z w T E g g Wy R mk K [] [] TS TA TB → zRok Q T R → mk b + 16 * m < 2147483646 → zRCh z b H → zRCk z b H → zRCb z b Ba → zRmI w b H ids → zRmB w b Ba → zHn H → (∀ n, n ∈ H → zKok T b n.1 ∧ ∀ k, k < 16 → n.2.2.2 k ≠ 0 → (Ba k).isSome = true) → (∀ r x, r < 16 → x < 2400 → zgA w 150 b r = Int32.ofNat x → x ∈ TA) →
    ∃ z' w' g' R' mk' H', fX11_sendDue_7 N nn 0 b (some b) (Int32.ofNat i) z = some (0, z') ∧ fX19_routerSpeaks_155 N nn' 0 b (Int32.ofNat i) w = some (0, w') ∧ zSp Q z w z' w' T E b g g' Wy R R' mk mk' K TS TA TB H H' ids Ba (16 * m) := by
  intro m
  induction m with
  | zero =>
    intro i nn nn' z w g R mk H hi hn hn' hp hok hm hh hk hB hM hMB hH h8 hTA
    obtain ⟨nn, rfl⟩ : ∃ k, nn = k + 1 := ⟨nn - 1, by omega⟩
    obtain ⟨nn', rfl⟩ : ∃ k, nn' = k + 1 := ⟨nn' - 1, by omega⟩
    have : i = H.length := by omega
    subst this
    refine ⟨z, w, g, R, mk, H, ?_, ?_, zSp_0 hp hok hk hM hH (fun n hn => (h8 n hn).2)⟩
    · show fX11_sendDue_7b N (fX11_sendDue_7 N nn) 0 b (some b) (Int32.ofNat H.length) z = _
      unfold fX11_sendDue_7b
      rw [zd_e, hh.1, if_pos (Int32.le_refl _)]
    · show fX19_routerSpeaks_155b N (fX19_routerSpeaks_155 N nn') 0 b (Int32.ofNat H.length) w = _
      unfold fX19_routerSpeaks_155b
      rw [hM.1.1, if_pos (Int32.le_refl _)]
  | succ m ih =>
    intro i nn nn' z w g R mk H hi hn hn' hp hok hm hh hk hB hM hMB hH h8 hTA
    obtain ⟨nn, rfl⟩ : ∃ k, nn = k + 1 := ⟨nn - 1, by omega⟩
    obtain ⟨nn', rfl⟩ : ∃ k, nn' = k + 1 := ⟨nn' - 1, by omega⟩
    have h16 := hH.1.2.2
    have hget : H[i]? = some H[i] := List.getElem?_eq_getElem (by omega)
    generalize H[i] = n at hget
    have hnm := List.mem_of_getElem? hget
    have n96 := (hH.1.1 n hnm).1
    have c0 : fX11_sendDue_7 N (nn + 1) 0 b (some b) (Int32.ofNat i) z = fX11_sendDue_26 N (fX11_sendDue_7 N nn) N 0 b b (Int32.ofNat i) (Int32.ofNat n.1) (Int32.ofNat 0) z := by
      show fX11_sendDue_7b N (fX11_sendDue_7 N nn) 0 b (some b) (Int32.ofNat i) z = _
      unfold fX11_sendDue_7b
      rw [zd_e, hh.1, if_neg (by rw [zo_le (by omega) (by omega)]; omega), zkk (show i < 16 by omega) (by omega), zoC (show i < 2147483648 by omega), hh.2 i n hget, zl_e]
      rfl
    have m0 : fX19_routerSpeaks_155 N (nn' + 1) 0 b (Int32.ofNat i) w = fX19_routerSpeaks_174 N (fX19_routerSpeaks_155 N nn') N 0 b (Int32.ofNat i) (some (ids i)) (Int32.ofNat 0) w := by
      show fX19_routerSpeaks_155b N (fX19_routerSpeaks_155 N nn') 0 b (Int32.ofNat i) w = _
      unfold fX19_routerSpeaks_155b
      rw [hM.1.1, if_neg (by rw [zo_le (by omega) (by omega)]; omega), zkk (show i < 16 by omega) (by omega), zoC (show i < 2147483648 by omega), (hM.1.2.1 i (by omega)).2.2, zl_e]
      rfl
    by_cases cf : n.2.2.1 = true
    · obtain ⟨z1, w1, g1, R1, mk1, H1, s1, s2, s3⟩ := zp_tellR (K7 := fX11_sendDue_7 N nn) (K155 := fX19_routerSpeaks_155 N nn') (ids := ids) (i := i) (TS := TS) (TA := TA) (TB := TB) (K := K) (Wy := Wy) hE4 hb hr hBw hBe (h8 n hnm).1 hN 16 0 N N z w g R mk H n rfl (by omega) (by omega) hp hok (by omega) hk hB hM hMB hH (fun n hn => (h8 n hn).2) hTA hget rfl cf
      obtain ⟨⟨a1, a2, a3, a4, a5⟩, ⟨b1, b2, b3, b4, b5⟩, c1, c2⟩ := id s3
      have hm1 := (a5 b).2
      rw [if_pos rfl] at hm1
      obtain ⟨z', w', g', R', mk', H', t1, t2, t3⟩ := ih (i + 1) nn nn' z1 w1 g1 R1 mk1 H1 (by rw [zHs_len b4]; omega) (by omega) (by omega) a1 a2 (by omega) (zRCh_cg (c1.1 9 1 b (by omega) (by omega) (by omega)) (fun j => c1.2.1 131 b j (by omega) (by omega)) (zRCh_hs b4 hh)) b1 (zRCb_cg (fun k j hk' => c1.2.1 k b j (by omega) (by omega)) (fun o j _ _ => c1.2.1 104 o j (by omega) (by omega)) hB) b2 (zRmB_cg (fun k j hk' => c2.2.1 k b j (by omega) (by omega)) (fun x rr _ _ _ k _ => c2.2.1 178 0 _ (by omega) (by omega)) hMB) b3 (fun n' hn' => by
        obtain ⟨n0, e0, e1, -, -⟩ := zHs_mem b4 hn'
        rw [e1]; exact ⟨(h8 n0 e0).1, b5 n' hn'⟩) (fun rr x h1 h2 e => hTA rr x h1 h2 ((c2.2.1 150 b rr (by omega) (by omega)).symm.trans e))
      exact ⟨z', w', g', R', mk', H', c0.trans (s1.trans t1), m0.trans (s2.trans t2), zSp_tr (by omega) s3 t3⟩
    · have cf : n.2.2.1 = false := by simpa using cf
      have z0 := zc_tellNo (i := i) (K7 := fX11_sendDue_7 N nn) (N := N) hk n96 (fun r hr16 => by
        unfold fd
        rw [hAt_mem hH.1.2.1 hnm]; exact hH.2 n hnm cf r hr16) (by omega)
      have w0 : fX19_routerSpeaks_174 N (fX19_routerSpeaks_155 N nn') N 0 b (Int32.ofNat i) (some (ids i)) (Int32.ofNat 0) w = fX19_routerSpeaks_155 N nn' 0 b (Int32.ofNat (i + 1)) w := by
        obtain ⟨N', rfl⟩ : ∃ k, N = k + 1 := ⟨N - 1, by omega⟩
        show fX19_routerSpeaks_174b (N' + 1) (fX19_routerSpeaks_155 (N' + 1) nn') (fX19_routerSpeaks_174 (N' + 1) (fX19_routerSpeaks_155 (N' + 1) nn') N') 0 b (Int32.ofNat i) (some (ids i)) (Int32.ofNat 0) w = _
        unfold fX19_routerSpeaks_174b fX19_routerSpeaks_261
        rw [zd_e, (hM.2.2 i n hget).2.2.2.1, cf, if_pos (by decide), zo_i1, zl_e]
      obtain ⟨z', w', g', R', mk', H', t1, t2, t3⟩ := ih (i + 1) nn nn' z w g R mk H (by omega) (by omega) (by omega) hp hok (by omega) hh hk hB hM hMB hH h8 hTA
      exact ⟨z', w', g', R', mk', H', c0.trans (z0.trans t1), m0.trans (w0.trans t2), zSp_tr (m := 0) (by omega) (zSp_0 hp hok hk hM hH (fun n hn => (h8 n hn).2)) t3⟩
