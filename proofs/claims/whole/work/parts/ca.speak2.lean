/-! routers: a router's speaking, both sides -/
def zSq (Q : Qt) (z w z' w' : St) (T : Tp) (E : Ev) (b : Nat) (g g' : Sg) (Wy : Wyt) (R R' : Rg) (mk mk' : Nat → Nat) (K : Int32 → Int32 → Int32 → Prop) (TS TA TB : List Nat) (m : Nat) : Prop :=
  (zIp z' w' T E g' g' Wy R' mk' K [] [] TS TA TB ∧ zRok Q T R' ∧ (∀ c n v, R c n = some v → R' c n = some v) ∧ zRch T E b (PDr Q T) g g' ∧ ∀ c, mk c ≤ mk' c ∧ mk' c ≤ mk c + (if c = b then m else 0)) ∧ (∀ c, zFC c z z') ∧ ∀ c, zFM c w w'
theorem zSq_0 {Q : Qt} {z w : St} {T : Tp} {E : Ev} {b : Nat} {g : Sg} {Wy : Wyt} {R : Rg} {mk : Nat → Nat} {K : Int32 → Int32 → Int32 → Prop} {TS TA TB : List Nat} {m : Nat} (hp : zIp z w T E g g Wy R mk K [] [] TS TA TB) (hok : zRok Q T R) : zSq Q z w z w T E b g g Wy R R mk mk K TS TA TB m := ⟨⟨hp, hok, fun _ _ _ h => h, zRch_rf _, fun c => ⟨Nat.le_refl _, Nat.le_add_right _ _⟩⟩, fun _ => zFC_rf _ _, fun _ => zFM_rf _ _⟩
theorem zSq_tr {Q : Qt} {z w z1 w1 z2 w2 : St} {T : Tp} {E : Ev} {b : Nat} {g g1 g2 : Sg} {Wy : Wyt} {R R1 R2 : Rg} {mk mk1 mk2 : Nat → Nat} {K : Int32 → Int32 → Int32 → Prop} {TS TA TB : List Nat} {m n k : Nat} (hk : m + n ≤ k) (h1 : zSq Q z w z1 w1 T E b g g1 Wy R R1 mk mk1 K TS TA TB m) (h2 : zSq Q z1 w1 z2 w2 T E b g1 g2 Wy R1 R2 mk1 mk2 K TS TA TB n) : zSq Q z w z2 w2 T E b g g2 Wy R R2 mk mk2 K TS TA TB k := by
  obtain ⟨⟨a1, a2, a3, a4, a5⟩, c1, c2⟩ := h1
  obtain ⟨⟨d1, d2, d3, d4, d5⟩, f1, f2⟩ := h2
  refine ⟨⟨d1, d2, fun c n v h => d3 c n v (a3 c n v h), zRch_tr a4 d4, fun c => ?_⟩, fun c => zFC_tr (c1 c) (f1 c), fun c => zFM_tr (c2 c) (f2 c)⟩
  have u := a5 c
  have v := d5 c
  by_cases y : c = b
  · rw [if_pos y] at u v ⊢; omega
  · rw [if_neg y] at u v ⊢; omega
theorem zup1 {mk : Nat → Nat} {b c : Nat} : mk c ≤ zupd mk b (mk b + 1) c ∧ zupd mk b (mk b + 1) c ≤ mk c + (if c = b then 1 else 0) := by
  show mk c ≤ (if c = b then mk b + 1 else mk c) ∧ (if c = b then mk b + 1 else mk c) ≤ _
  by_cases y : c = b
  · rw [if_pos y, if_pos y, y]; omega
  · rw [if_neg y, if_neg y]; omega
theorem zp_greetAll {Q : Qt} {T : Tp} {E : Ev} {Wy : Wyt} {K : Int32 → Int32 → Int32 → Prop} {TS TA TB : List Nat} {b N : Nat} {H : List Nb} {ids : Nat → Nat} (hb : b < tb T) (hmod : Int32.ofNat (eN E) - Int32.ofNat (eN E) / (20 : Int32) * (20 : Int32) = 0) (hH : zHk H) (hN : 1481 < N) : ∀ (m i nn nn' : Nat) (z w : St) (g : Sg) (R : Rg) (mk : Nat → Nat), i + m = tp T b → m < nn → m < nn' → zIp z w T E g g Wy R mk K [] [] TS TA TB → zRok Q T R → mk b + m < 2147483646 → zRCh z b H → zRmI w b H ids → (∀ j, j < tp T b → zgI w 18 5 (tq T b j) = zbi (eU E (tq T b j / 8))) →
    ∃ z' w' g' R' mk', fX11_sendGreetings_7 N nn 0 b (some b) (Int32.ofNat i) z = some (0, z') ∧ fX19_routerSpeaks_2 N nn' 0 b (Int32.ofNat i) w = fX19_routerSpeaks_44 N 0 b w' ∧ zSq Q z w z' w' T E b g g' Wy R R' mk mk' K TS TA TB m := by
  intro m
  induction m with
  | zero =>
    intro i nn nn' z w g R mk hi hn hn' hp hok hm hh hM hup
    obtain ⟨nn, rfl⟩ : ∃ k, nn = k + 1 := ⟨nn - 1, by omega⟩
    obtain ⟨nn', rfl⟩ : ∃ k, nn' = k + 1 := ⟨nn' - 1, by omega⟩
    have : i = tp T b := by omega
    subst this
    refine ⟨z, w, g, R, mk, ?_, ?_, zSq_0 hp hok⟩
    · show fX11_sendGreetings_7b N (fX11_sendGreetings_7 N nn) 0 b (some b) (Int32.ofNat (tp T b)) z = _
      unfold fX11_sendGreetings_7b
      rw [(hp.1.1.1.2.1.2 b hb).2.2.2.1, if_pos (Int32.le_refl _)]
    · show fX19_routerSpeaks_2b N (fX19_routerSpeaks_2 N nn') 0 b (Int32.ofNat (tp T b)) w = _
      unfold fX19_routerSpeaks_2b
      rw [(hp.1.2.1.1.2.1.2 b hb).2.2.2.1, if_pos (Int32.le_refl _)]
  | succ m ih =>
    intro i nn nn' z w g R mk hi hn hn' hp hok hm hh hM hup
    obtain ⟨nn, rfl⟩ : ∃ k, nn = k + 1 := ⟨nn - 1, by omega⟩
    obtain ⟨nn', rfl⟩ : ∃ k, nn' = k + 1 := ⟨nn' - 1, by omega⟩
    have hT := hp.1.1.1
    have hc := hp.1.1.2.1
    have hMT := hp.1.2.1.1
    have hi' : i < tp T b := by omega
    have t6 := tp_le hc hb
    have v := tv_q hc hb hi'
    have e53 : zgI z 5 3 (tq T b i / 8) = zbi (eU E (tq T b i / 8)) := (hp.1.1.2.2.1.2 _ v.1).2.2
    have startC : fX11_sendGreetings_7 N (nn + 1) 0 b (some b) (Int32.ofNat i) z = (if ¬ zbi (eU E (tq T b i / 8)) = 0 then (zc (fX7_begin N 0 (2 : Int32) (8 : Int32) z) fun _ z11 => fX11_sendGreetings_53 N (fX11_sendGreetings_7 N nn) N 0 b (some b) (Int32.ofNat i) (tq T b i) (0 : Int32) (0 : Int32) z11) else (fX11_sendGreetings_194 N (fX11_sendGreetings_7 N nn) 0 b (some b) (Int32.ofNat i) z)) := by
      show fX11_sendGreetings_7b N (fX11_sendGreetings_7 N nn) 0 b (some b) (Int32.ofNat i) z = _
      unfold fX11_sendGreetings_7b
      rw [(hT.2.1.2 b hb).2.2.2.1, if_neg (by rw [zo_le (by omega) (by omega)]; omega), zkk (show i < 6 by omega) (by omega), zoC (show i < 2147483648 by omega), zl_e, (hT.2.1.2 b hb).2.2.2.2.1 i hi', zd_e, zl_e, (hT.2.2.2 _ v).2.1, zd_e, e53, zl_e, hT.1.2.2.1, zd_e]
    have startM : fX19_routerSpeaks_2 N (nn' + 1) 0 b (Int32.ofNat i) w = (if zbi (eU E (tq T b i / 8)) = 0 then (fX19_routerSpeaks_38 N (fX19_routerSpeaks_2 N nn') 0 b (Int32.ofNat i) w) else (zc (fX19_greet N 0 b (Int32.ofNat i) w) fun _ z8 => fX19_routerSpeaks_38 N (fX19_routerSpeaks_2 N nn') 0 b (Int32.ofNat i) z8)) := by
      show fX19_routerSpeaks_2b N (fX19_routerSpeaks_2 N nn') 0 b (Int32.ofNat i) w = _
      unfold fX19_routerSpeaks_2b
      rw [(hMT.2.1.2 b hb).2.2.2.1, if_neg (by rw [zo_le (by omega) (by omega)]; omega), hp.1.2.1.2.2.1.1, hmod, if_neg (by decide), zkk (show i < 6 by omega) (by omega), zoC (show i < 2147483648 by omega), zl_e, (hMT.2.1.2 b hb).2.2.2.2 i hi', zd_e, hup i hi']
    have stepC : ∀ y : St, fX11_sendGreetings_194 N (fX11_sendGreetings_7 N nn) 0 b (some b) (Int32.ofNat i) y = fX11_sendGreetings_7 N nn 0 b (some b) (Int32.ofNat (i + 1)) y := fun y => by
      unfold fX11_sendGreetings_194
      rw [zo_i1, zl_e]
    have stepM : ∀ y : St, fX19_routerSpeaks_38 N (fX19_routerSpeaks_2 N nn') 0 b (Int32.ofNat i) y = fX19_routerSpeaks_2 N nn' 0 b (Int32.ofNat (i + 1)) y := fun y => by
      unfold fX19_routerSpeaks_38
      rw [zo_i1, zl_e]
    by_cases cu : eU E (tq T b i / 8) = true
    · obtain ⟨z1, w1, g1, R1, s1, s2, s3, s4, s5, s6, s7, s8⟩ := zp_greet1 (x3 := Int32.ofNat i) (K7 := fX11_sendGreetings_7 N nn) hp hb (by omega) hok hi' hh hM hH hN
      have one : zSq Q z w z1 w1 T E b g g1 Wy R R1 mk (zupd mk b (mk b + 1)) K TS TA TB 1 := ⟨⟨s3, s4, s5, s6, fun c => zup1⟩, s7, s8⟩
      obtain ⟨z', w', g', R', mk', t1, t2, t3⟩ := ih (i + 1) nn nn' z1 w1 g1 R1 (zupd mk b (mk b + 1)) (by omega) (by omega) (by omega) s3 s4 (by rw [zupd_s]; omega) (zRCh_cg ((s7 b).1 9 1 b (by omega) (by omega) (by omega)) (fun j => (s7 b).2.1 131 b j (by omega) (by omega)) hh) (zRmI_cg ((s8 (b + 1)).1 12 13 b (by omega) (by omega) (by omega) (by omega)) (fun j => (s8 b).2.2.1 b j) (fun x y1 y2 => ⟨fun j _ => (s8 b).1 15 j x (by omega) (by omega) (by omega) (by omega), fun k j hk => (s8 (b + 1)).2.1 k x j (by omega) (by omega)⟩) hM) (fun j hj => ((s8 b).2.2.2 5 _ (by omega)).trans (hup j hj))
      refine ⟨z', w', g', R', mk', ?_, ?_, zSq_tr (by omega) one t3⟩
      · rw [startC, cu, if_pos (by decide), s1, stepC]; exact t1
      · rw [startM, cu, if_neg (by decide), s2, zc_e, stepM]; exact t2
    · have cu : eU E (tq T b i / 8) = false := by simpa using cu
      obtain ⟨z', w', g', R', mk', t1, t2, t3⟩ := ih (i + 1) nn nn' z w g R mk (by omega) (by omega) (by omega) hp hok (by omega) hh hM hup
      refine ⟨z', w', g', R', mk', ?_, ?_, zSq_tr (m := 0) (by omega) (zSq_0 hp hok) t3⟩
      · rw [startC, cu, if_neg (by decide), stepC]; exact t1
      · rw [startM, cu, if_pos (by decide), stepM]; exact t2
theorem zp_thankAll {Q : Qt} {T : Tp} {E : Ev} {Wy : Wyt} {K : Int32 → Int32 → Int32 → Prop} {TS TA TB : List Nat} {b N : Nat} {L : List (Nat × Nat × Nat)} (hb : b < tb T) (hr : tr T b = true) (hl : L.length ≤ 64) (hL : ∀ e, e ∈ L → zKok T b e.1 ∧ e.2.1 < 16 ∧ 1 ≤ e.2.2 ∧ e.2.2 ≤ 16000000) (hN : 1481 < N) : ∀ (m i nn nn' : Nat) (z w : St) (g : Sg) (R : Rg) (mk : Nat → Nat), i + m = L.length → m < nn → m < nn' → zIp z w T E g g Wy R mk K [] [] TS TA TB → zRok Q T R → mk b + m < 2147483646 → zRCt z b L → zRmT w T b L →
    ∃ z' w' g' R' mk', fX11_sendThanks_7 N nn 0 b (some b) (Int32.ofNat i) z = some (0, zsI z' 9 9 b 0) ∧ fX19_routerSpeaks_51 N nn' 0 b (Int32.ofNat L.length) (Int32.ofNat i) w = fX19_routerSpeaks_155 N N 0 b (0 : Int32) (zsI w' 12 22 b 0) ∧ zSq Q z w z' w' T E b g g' Wy R R' mk mk' K TS TA TB m := by
  intro m
  induction m with
  | zero =>
    intro i nn nn' z w g R mk hi hn hn' hp hok hm hC hM
    obtain ⟨nn, rfl⟩ : ∃ k, nn = k + 1 := ⟨nn - 1, by omega⟩
    obtain ⟨nn', rfl⟩ : ∃ k, nn' = k + 1 := ⟨nn' - 1, by omega⟩
    have : i = L.length := by omega
    subst this
    refine ⟨z, w, g, R, mk, ?_, ?_, zSq_0 hp hok⟩
    · show fX11_sendThanks_7b N (fX11_sendThanks_7 N nn) 0 b (some b) (Int32.ofNat L.length) z = _
      unfold fX11_sendThanks_7b
      rw [zd_e, hC.1, if_pos (Int32.le_refl _), zl_e]
    · show fX19_routerSpeaks_51b N (fX19_routerSpeaks_51 N nn') 0 b (Int32.ofNat L.length) (Int32.ofNat L.length) w = _
      unfold fX19_routerSpeaks_51b
      rw [if_pos (Int32.le_refl _), zl_e]
  | succ m ih =>
    intro i nn nn' z w g R mk hi hn hn' hp hok hm hC hM
    obtain ⟨nn, rfl⟩ : ∃ k, nn = k + 1 := ⟨nn - 1, by omega⟩
    obtain ⟨nn', rfl⟩ : ∃ k, nn' = k + 1 := ⟨nn' - 1, by omega⟩
    have hget : L[i]? = some L[i] := List.getElem?_eq_getElem (by omega)
    generalize L[i] = e at hget
    obtain ⟨key, of_, num⟩ := e
    obtain ⟨h1, h2, h3, h4⟩ := hL _ (List.mem_of_getElem? hget)
    obtain ⟨z1, w1, g1, R1, s1, s2, s3, s4, s5, s6, s7, s8⟩ := zp_thank1 (nn := nn) (nn' := nn') hp hb hr (by omega) hok hC hM hl hget h1 h2 h3 h4 hN
    have one : zSq Q z w z1 w1 T E b g g1 Wy R R1 mk (zupd mk b (mk b + 1)) K TS TA TB 1 := ⟨⟨s3, s4, s5, s6, fun c => zup1⟩, s7, s8⟩
    obtain ⟨z', w', g', R', mk', t1, t2, t3⟩ := ih (i + 1) nn nn' z1 w1 g1 R1 (zupd mk b (mk b + 1)) (by omega) (by omega) (by omega) s3 s4 (by rw [zupd_s]; omega) (zRCt_cg ((s7 (b + 1)).1 9 9 b (by omega) (by omega) (by omega)) (fun k j hk => (s7 b).2.1 k b j (by omega) (by omega)) hC) (zRmT_cg ((s8 (b + 1)).1 12 22 b (by omega) (by omega) (by omega) (by omega)) (fun k j hk => (s8 b).2.1 k b j (by omega) (by omega)) hM)
    exact ⟨z', w', g', R', mk', s1.trans t1, s2.trans t2, zSq_tr (by omega) one t3⟩
/-- nothing is due: the model says nothing -/
theorem zm_tellNo {w : St} {b N : Nat} {H : List Nb} {ids : Nat → Nat} (hM : zRmI w b H ids) (hl : H.length ≤ 16) (h0 : ∀ n, n ∈ H → ∀ k, k < 16 → n.2.2.2 k = 0) (hN : 17 < N) : fX19_routerSpeaks_155 N N 0 b (0 : Int32) w = some (0, w) := by
  refine zlp0 (G := fun n' i => fX19_routerSpeaks_155 N n' 0 b (Int32.ofNat i) w) (r := some (0, w)) (k := H.length) (n := N) (by omega) ?_ ?_
  · intro n' i hi
    have hget : H[i]? = some H[i] := List.getElem?_eq_getElem hi
    generalize H[i] = n at hget
    obtain ⟨-, -, -, c3, c4⟩ := hM.2.2 i n hget
    show fX19_routerSpeaks_155b N (fX19_routerSpeaks_155 N n') 0 b (Int32.ofNat i) w = fX19_routerSpeaks_155 N n' 0 b (Int32.ofNat (i + 1)) w
    unfold fX19_routerSpeaks_155b
    rw [hM.1.1, if_neg (by rw [zo_le (by omega) (by omega)]; omega), zkk (show i < 16 by omega) (by omega), zoC (show i < 2147483648 by omega), (hM.1.2.1 i (by omega)).2.2, zl_e]
    by_cases cf : n.2.2.1 = true
    · refine zlp0 (G := fun n2 r => fX19_routerSpeaks_174 N (fX19_routerSpeaks_155 N n') n2 0 b (Int32.ofNat i) (some (ids i)) (Int32.ofNat r) w) (r := fX19_routerSpeaks_155 N n' 0 b (Int32.ofNat (i + 1)) w) (k := 16) (n := N) (by omega) ?_ ?_
      · intro n2 r hr
        show fX19_routerSpeaks_174b N (fX19_routerSpeaks_155 N n') (fX19_routerSpeaks_174 N (fX19_routerSpeaks_155 N n') n2) 0 b (Int32.ofNat i) (some (ids i)) (Int32.ofNat r) w = _
        unfold fX19_routerSpeaks_174b fX19_routerSpeaks_255
        rw [zd_e, c3, cf, if_neg (by decide), if_neg (by rw [show (16 : Int32) = Int32.ofNat 16 from rfl, zo_le (by omega) (by omega)]; omega), zkk hr (by omega), zoC (show r < 2147483648 by omega), (c4 r hr).1, h0 n (List.mem_of_getElem? hget) r hr, if_pos (by decide), zo_i1, zl_e]
      · intro n2
        show fX19_routerSpeaks_174b N (fX19_routerSpeaks_155 N n') (fX19_routerSpeaks_174 N (fX19_routerSpeaks_155 N n') n2) 0 b (Int32.ofNat i) (some (ids i)) (Int32.ofNat 16) w = _
        unfold fX19_routerSpeaks_174b fX19_routerSpeaks_261
        rw [zd_e, c3, cf, if_neg (by decide), if_pos (by decide), zo_i1, zl_e]
    · have cf : n.2.2.1 = false := by simpa using cf
      obtain ⟨N', rfl⟩ : ∃ k, N = k + 1 := ⟨N - 1, by omega⟩
      show fX19_routerSpeaks_174b (N' + 1) (fX19_routerSpeaks_155 (N' + 1) n') (fX19_routerSpeaks_174 (N' + 1) (fX19_routerSpeaks_155 (N' + 1) n') N') 0 b (Int32.ofNat i) (some (ids i)) (0 : Int32) w = _
      unfold fX19_routerSpeaks_174b fX19_routerSpeaks_261
      rw [zd_e, c3, cf, if_pos (by decide), zo_i1, zl_e]
  · intro n'
    show fX19_routerSpeaks_155b N (fX19_routerSpeaks_155 N n') 0 b (Int32.ofNat H.length) w = _
    unfold fX19_routerSpeaks_155b
    rw [hM.1.1, if_pos (Int32.le_refl _)]
