/-! routers: all that a router says in a tick, both sides -/
theorem zIp_mI {M : Nat} {z w w' : St} {T : Tp} {E : Ev} {gc gm : Sg} {Wy : Wyt} {R : Rg} {mk : Nat → Nat} {K : Int32 → Int32 → Int32 → Prop} {X XM TS TA TB : List Nat} (f : zFr M w w') (hm1 : mMV &&& M = 0) (hm2 : 0x38000000000000000000000000000000000000000000000000000000000000000000000000000000000000000000000000000000000000000000000000000000000000000000000000000000000000000000000000000000000000000000000000000000000000000000000000000000000000000000000000000000000000000000000000000000000000000000000000000000000000000000000000000000000000000000000 &&& M = 0) (hm3 : mREm &&& M = 0) (hm4 : 0x370000000000000000000000000000000000000000000000000000000000000000000000000000000000000000000000000000000000000000000000000000000000000000000000000000000000000000000000000000000000000000000000000 &&& M = 0) (hL : ∀ k o i, zgL w' k o i = zgL w k o i) (hp : zIp z w T E gc gm Wy R mk K X XM TS TA TB) : zIp z w' T E gc gm Wy R mk K X XM TS TA TB := by
  obtain ⟨⟨p1, p2, p3, p4, ⟨p5, p6, p7⟩, p8, p9, p10⟩, hR, hW⟩ := hp
  exact ⟨⟨p1, zMV_fr f hm1 hL p2, p3, p4, ⟨p5, zWym_fr f hm2 p6, p7⟩, zRE_fr (zFr_rf 0 z) (by decide) f hm3 p8, zUt_keepM f hm4 p9, p10⟩, hR, hW⟩
/-- frames of all that a router says: its thanks are gone, too -/
def zFCx (b : Nat) (z z' : St) : Prop := (∀ k j o, (k = 9 ∨ k = 0 ∨ (k = 11 ∧ j = 6) ∨ (k = 8 ∧ j = 5)) → j < 20 → ¬ (k = 9 ∧ (j = 5 ∨ j = 9) ∧ o = b) → zgI z' k j o = zgI z k j o) ∧ (∀ k o i, ((100 ≤ k ∧ k ≤ 111) ∨ (131 ≤ k ∧ k ≤ 138)) → ¬ (k = 135 ∧ b * 96 ≤ o ∧ o < b * 96 + 96) → zgA z' k o i = zgA z k o i) ∧ ∀ u, 515 ≤ u → u < 579 → (∀ j, zgI z' 7 j u = zgI z 7 j u) ∧ ∀ i, zgA z' 125 u i = zgA z 125 u i
def zFMx (b : Nat) (w w' : St) : Prop := (∀ k j o, (k = 12 ∨ k = 15) → j < 30 → ¬ (k = 12 ∧ (j = 4 ∨ j = 7)) → ¬ (k = 12 ∧ j = 22 ∧ o = b) → zgI w' k j o = zgI w k j o) ∧ (∀ k o i, ((150 ≤ k ∧ k ≤ 157) ∨ k = 162 ∨ k = 163 ∨ k = 178) → ¬ (k = 163 ∧ 16 * b ≤ o ∧ o < 16 * b + 16) → zgA w' k o i = zgA w k o i) ∧ (∀ o i, zgQ w' 149 o i = zgQ w 149 o i) ∧ ∀ j o, j = 4 ∨ j = 5 → zgI w' 18 j o = zgI w 18 j o
theorem zFCx_tr {b : Nat} {x y z : St} (h1 : zFCx b x y) (h2 : zFCx b y z) : zFCx b x z := ⟨fun k j o a l n => (h2.1 k j o a l n).trans (h1.1 k j o a l n), fun k o i a n => (h2.2.1 k o i a n).trans (h1.2.1 k o i a n), fun u u1 u2 => ⟨fun j => ((h2.2.2 u u1 u2).1 j).trans ((h1.2.2 u u1 u2).1 j), fun i => ((h2.2.2 u u1 u2).2 i).trans ((h1.2.2 u u1 u2).2 i)⟩⟩
theorem zFMx_tr {b : Nat} {x y z : St} (h1 : zFMx b x y) (h2 : zFMx b y z) : zFMx b x z := ⟨fun k j o a l n m => (h2.1 k j o a l n m).trans (h1.1 k j o a l n m), fun k o i a n => (h2.2.1 k o i a n).trans (h1.2.1 k o i a n), fun o i => (h2.2.2.1 o i).trans (h1.2.2.1 o i), fun j o h => (h2.2.2.2 j o h).trans (h1.2.2.2 j o h)⟩
theorem zFC_x {b : Nat} {z z' : St} (h : zFC b z z') : zFCx b z z' := ⟨fun k j o a l n => h.1 k j o a l (fun y => n (by omega)), h.2⟩
theorem zFM_x {b : Nat} {w w' : St} (h : zFM b w w') : zFMx b w w' := ⟨fun k j o a l n _ => h.1 k j o a l n (Nat.zero_le _), h.2⟩
theorem zp_speak {Q : Qt} {z w : St} {T : Tp} {E : Ev} {g : Sg} {Wy : Wyt} {R : Rg} {mk : Nat → Nat} {K : Int32 → Int32 → Int32 → Prop} {TS TB : List Nat} {b N : Nat} {s : Rs} (hp : zIp z w T E g g Wy R mk K [] [] TS (zTA w T) TB) (hok : zRok Q T R) (hm : mk b + 400 < 2147483646) (hE4 : eN E ≤ 400000) (hb : b < tb T) (hr : tr T b = true) (hR : zRp z w T E b s) (hBe : ∀ r a, rB s r = some a → zEn a.2.2 ∧ Q r a.1 a.2.2) (hth : ∀ e, e ∈ rT s → 1 ≤ e.2.2) (hup : ∀ j, j < tp T b → zgI w 18 5 (tq T b j) = zbi (eU E (tq T b j / 8))) (hN : 1481 < N) :
    ∃ z' w' g' R' mk' s', (if ¬ ((zgI z 11 4 0) - (zgI z 11 4 0) / (20 : Int32) * (20 : Int32)) = 0 then (fX11_doRouter_123 N 0 b b (some b) z) else (zc (fX11_sendGreetings N 0 b z) fun _ z8 => fX11_doRouter_123 N 0 b b (some b) z8)) = fX11_doRouter_147 N 0 b (some b) z' ∧ fX19_routerSpeaks N 0 b w = some (0, w') ∧ zIp z' w' T E g' g' Wy R' mk' K [] [] TS (zTA w' T) TB ∧ zRok Q T R' ∧ (∀ c n v, R c n = some v → R' c n = some v) ∧ zRch T E b (PDr Q T) g g' ∧ (∀ c, mk c ≤ mk' c ∧ mk' c ≤ mk c + (if c = b then 326 else 0)) ∧ zRp z' w' T E b s' ∧ rT s' = [] ∧ s'.2.2 = s.2.2 ∧ zHs (rH s) (rH s') ∧ zFCx b z z' ∧ zFMx b w w' := by
  have hT := hp.1.1.1
  have hc := hp.1.1.2.1
  have hMT := hp.1.2.1.1
  have t6 := tp_le hc hb
  obtain ⟨⟨cH, cK, cT, cB, c7, c8⟩, ⟨⟨ids, mN⟩, mT, mB, m16, m17, m18⟩, hRw, hRo, h24⟩ := id hR
  obtain ⟨wH, wN, wT, wBw, wm⟩ := id hRw
  have h16 := wH.1.2.2
  have k110 := (hT.2.2.1.1 b hb hr).1
  -- greetings
  have sA : ∃ zA wA gA RA mkA, (if ¬ ((zgI z 11 4 0) - (zgI z 11 4 0) / (20 : Int32) * (20 : Int32)) = 0 then (fX11_doRouter_123 N 0 b b (some b) z) else (zc (fX11_sendGreetings N 0 b z) fun _ z8 => fX11_doRouter_123 N 0 b b (some b) z8)) = fX11_doRouter_123 N 0 b b (some b) zA ∧ fX19_routerSpeaks N 0 b w = fX19_routerSpeaks_44 N 0 b wA ∧ zSq Q z w zA wA T E b g gA Wy R RA mk mkA K TS (zTA w T) TB 6 := by
    have hn := hp.1.1.2.2.1.1
    by_cases cm : (Int32.ofNat (eN E) - Int32.ofNat (eN E) / (20 : Int32) * (20 : Int32)) = 0
    · obtain ⟨zA, wA, gA, RA, mkA, s1, s2, s3⟩ := zp_greetAll (N := N) hb cm wH.1 hN (tp T b) 0 N N z w g R mk (by omega) (by omega) (by omega) hp hok (by omega) cH mN hup
      refine ⟨zA, wA, gA, RA, mkA, ?_, s2, zSq_tr (m := 0) (n := tp T b) (by omega) (zSq_0 hp hok) s3⟩
      rw [hn, if_neg (fun y => y cm)]
      unfold fX11_sendGreetings
      rw [k110, zl_e]
      show zc (fX11_sendGreetings_7 N N 0 b (some b) (Int32.ofNat 0) z) _ = _
      rw [s1, zc_e]
    · refine ⟨z, w, g, R, mk, ?_, ?_, zSq_0 hp hok⟩
      · rw [hn, if_pos cm]
      · obtain ⟨N', rfl⟩ : ∃ k, N = k + 1 := ⟨N - 1, by omega⟩
        show fX19_routerSpeaks_2b (N' + 1) (fX19_routerSpeaks_2 (N' + 1) N') 0 b (0 : Int32) w = _
        unfold fX19_routerSpeaks_2b
        rw [hp.1.2.1.2.2.1.1, if_pos cm]
        split <;> rfl
  obtain ⟨zA, wA, gA, RA, mkA, a1, a2, ⟨a3, a4, a5, a6, a7⟩, a8, a9⟩ := sA
  have ctA : zRCt zA b (rT s) := zRCt_cg ((a8 (b + 1)).1 9 9 b (by omega) (by omega) (by omega)) (fun k j hk => (a8 b).2.1 k b j (by omega) (by omega)) cT
  have mtA : zRmT wA T b (rT s) := zRmT_cg ((a9 (b + 1)).1 12 22 b (by omega) (by omega) (by omega) (by omega)) (fun k j hk => (a9 b).2.1 k b j (by omega) (by omega)) mT
  have hmA := (a7 b).2
  rw [if_pos rfl] at hmA
  -- thanks
  have sB : ∃ zB wB gB RB mkB, fX11_doRouter_123 N 0 b b (some b) zA = fX11_doRouter_135 N 0 b b (some b) (zsI zB 9 9 b 0) ∧ fX19_routerSpeaks_44 N 0 b wA = fX19_routerSpeaks_155 N N 0 b (0 : Int32) (zsI wB 12 22 b 0) ∧ zSq Q zA wA zB wB T E b gA gB Wy RA RB mkA mkB K TS (zTA w T) TB 64 := by
    unfold fX11_doRouter_123 fX19_routerSpeaks_44
    by_cases c0 : (rT s).length = 0
    · have e9 : zgI zA 9 9 b = 0 := by rw [ctA.1, c0]; rfl
      have e22 : zgI wA 12 22 b = 0 := by rw [mtA.1, c0]; rfl
      refine ⟨zA, wA, gA, RA, mkA, ?_, ?_, zSq_0 a3 a4⟩
      · rw [e9, if_pos (by decide)]
        have : zsI zA 9 9 b 0 = zA := by
          have := zsI_id zA 9 9 b
          rw [e9] at this; exact this
        rw [this]
      · rw [e22, zl_e]
        obtain ⟨N', rfl⟩ : ∃ k, N = k + 1 := ⟨N - 1, by omega⟩
        show fX19_routerSpeaks_51b (N' + 1) (fX19_routerSpeaks_51 (N' + 1) N') 0 b (0 : Int32) (0 : Int32) wA = _
        unfold fX19_routerSpeaks_51b
        rw [if_pos (by decide), zl_e]
    · obtain ⟨zB, wB, gB, RB, mkB, s1, s2, s3⟩ := zp_thankAll (N := N) hb hr wT.1 (fun e he => ⟨(wT.2 e he).1, (wT.2 e he).2.1, hth e he, (wT.2 e he).2.2⟩) hN (rT s).length 0 N N zA wA gA RA mkA (by omega) (by have := wT.1; omega) (by have := wT.1; omega) a3 a4 (by have := wT.1; omega) ctA mtA
      refine ⟨zB, wB, gB, RB, mkB, ?_, ?_, zSq_tr (m := 0) (n := (rT s).length) (by have := wT.1; omega) (zSq_0 a3 a4) s3⟩
      · have hl := wT.1
        rw [ctA.1, if_neg (by rw [show (0 : Int32) = Int32.ofNat 0 from rfl, zo_le (by omega) (by omega)]; omega)]
        unfold fX11_sendThanks
        have k110A : zgR zA 1 10 b = some b := (a3.1.1.1.2.2.1.1 b hb hr).1
        rw [k110A, zl_e]
        show zc (fX11_sendThanks_7 N N 0 b (some b) (Int32.ofNat 0) zA) _ = _
        rw [s1, zc_e]
      · rw [mtA.1, zl_e]
        exact s2
  obtain ⟨zB, wB, gB, RB, mkB, b1, b2, ⟨b3, b4, b5, b6, b7⟩, b8, b9⟩ := sB
  have hmB := (b7 b).2
  rw [if_pos rfl] at hmB
  let zB' : St := zsI zB 9 9 b 0
  let wB' : St := zsI wB 12 22 b 0
  have IB : ∀ k j o, ¬ (k = 9 ∧ j = 9 ∧ o = b) → zgI zB' k j o = zgI zB k j o := fun k j o n => by
    show zgI (zsI zB 9 9 b 0) k j o = _
    rw [zgI_sI, if_neg n]
  have JB : ∀ k j o, ¬ (k = 12 ∧ j = 22 ∧ o = b) → zgI wB' k j o = zgI wB k j o := fun k j o n => by
    show zgI (zsI wB 12 22 b 0) k j o = _
    rw [zgI_sI, if_neg n]
  have p1 : zIp zB' wB T E gB gB Wy RB mkB K [] [] TS (zTA w T) TB := zIp_kr (M := 0x200000000000000000000000000000000000000000000000000000000000000000000000000000000000000000000000000000000000000000000000000000000000000000000000000) (zFr_I (zFr_rf _ _) (by decide)) (by decide) (by decide) (by decide) (by decide) (fun j u => IB 7 j u (by omega)) (fun _ _ _ _ => rfl) b3
  have p2 : zIp zB' wB' T E gB gB Wy RB mkB K [] [] TS (zTA w T) TB := zIp_mI (M := 0x400000000000000000000000000000000000000000000000000000000000000000000000000000000000000000000000000000000000000000000000000000000000000000000000000000000000000000000000000000000000000000000000000000) (zFr_I (zFr_rf _ _) (by decide)) (by decide) (by decide) (by decide) (by decide) (fun _ _ _ => rfl) p1
  have FzB : zFCx b z zB' := zFCx_tr (zFC_x (zFC_tr (a8 b) (b8 b))) ⟨fun k j o a _ n => IB k j o (fun y => n (by omega)), fun _ _ _ _ _ => rfl, fun u _ _ => ⟨fun j => IB 7 j u (by omega), fun _ => rfl⟩⟩
  have FwB : zFMx b w wB' := zFMx_tr (zFM_x (zFM_tr (a9 b) (b9 b))) ⟨fun k j o a _ _ n => JB k j o n, fun _ _ _ _ _ => rfl, fun _ _ => rfl, fun j o _ => JB 18 j o (by omega)⟩
  have FzB1 : zFC (b + 1) z zB := zFC_tr (a8 _) (b8 _)
  have FwB1 : zFM (b + 1) w wB := zFM_tr (a9 _) (b9 _)
  have chB : zRCh zB' b (rH s) := zRCh_cg ((IB 9 1 b (by omega)).trans (FzB1.1 9 1 b (by omega) (by omega) (by omega))) (fun i => FzB1.2.1 131 b i (by omega) (by omega)) cH
  have ckB : zRCk zB' b (rH s) := zRCk_cz ((IB 9 5 b (by omega)).trans (FzB1.1 9 5 b (by omega) (by omega) (by omega))) (fun i => FzB1.2.1 132 b i (by omega) (by omega)) (fun i => FzB1.2.1 133 b i (by omega) (by omega)) (fun o i _ _ => FzB1.2.1 135 o i (by omega) (by omega)) cK
  have cbB : zRCb zB' b (rB s) := zRCb_cg (fun k i hk => FzB1.2.1 k b i (by omega) (by omega)) (fun o i _ _ => FzB1.2.1 104 o i (by omega) (by omega)) cB
  have mnB : zRmI wB' b (rH s) ids := zRmI_cg ((JB 12 13 b (by omega)).trans (FwB1.1 12 13 b (by omega) (by omega) (by omega) (by omega))) (fun j => FwB1.2.2.1 b j) (fun x y1 y2 => ⟨fun j _ => (JB 15 j x (by omega)).trans (FwB1.1 15 j x (by omega) (by omega) (by omega) (by omega)), fun k j hk => FwB1.2.1 k x j (by omega) (by omega)⟩) mN
  have mbB : zRmB wB' b (rB s) := zRmB_cg (fun k j hk => FwB1.2.1 k b j (by omega) (by omega)) (fun x r _ _ _ k _ => FwB1.2.1 178 0 _ (by omega) (by omega)) mB
  have hTA : ∀ r x, r < 16 → x < 2400 → zgA wB' 150 b r = Int32.ofNat x → x ∈ zTA w T := fun r x r16 hx e => zTA_mem hc hb hr r16 hx ((FwB1.2.1 150 b r (by omega) (by omega)).symm.trans e)
  have h8 : ∀ n, n ∈ rH s → zKok T b n.1 ∧ ∀ k, k < 16 → n.2.2.2 k ≠ 0 → (rB s k).isSome = true := fun n hn => by
    obtain ⟨u1, u2, u3, u4, u5, -, -, u8⟩ := wN n hn
    exact ⟨⟨u1, u2, u3, u4, u5⟩, u8⟩
  -- adverts
  have sC : ∃ z' w' g' R' mk' H', fX11_doRouter_135 N 0 b b (some b) zB' = fX11_doRouter_147 N 0 b (some b) z' ∧ fX19_routerSpeaks_155 N N 0 b (0 : Int32) wB' = some (0, w') ∧ zSp Q zB' wB' z' w' T E b gB g' Wy RB R' mkB mk' K TS (zTA w T) TB (rH s) H' ids (rB s) 256 := by
    unfold fX11_doRouter_135
    have hcl := hCnt_le (rH s)
    by_cases c0 : hCnt (rH s) = 0
    · refine ⟨zB', wB', gB, RB, mkB, rH s, ?_, zm_tellNo mnB h16 (hCnt_0 c0) (by omega), zSp_0 p2 b4 ckB mnB wH (fun n hn => (h8 n hn).2)⟩
      rw [ckB.1, c0, if_pos (by decide)]
    · obtain ⟨z', w', g', R', mk', H', s1, s2, s3⟩ := zp_tellAll (N := N) (ids := ids) hE4 hb hr wBw hBe hN (rH s).length 0 N N zB' wB' gB RB mkB (rH s) (by omega) (by omega) (by omega) p2 b4 (by omega) chB ckB cbB mnB mbB wH h8 hTA
      refine ⟨z', w', g', R', mk', H', ?_, s2, zSp_tr (m := 0) (n := 16 * (rH s).length) (by omega) (zSp_0 p2 b4 ckB mnB wH (fun n hn => (h8 n hn).2)) s3⟩
      rw [ckB.1, if_neg (by rw [show (0 : Int32) = Int32.ofNat 0 from rfl, zo_le (by omega) (by omega)]; omega)]
      unfold fX11_sendDue
      have k110B : zgR zB' 1 10 b = some b := (p2.1.1.1.2.2.1.1 b hb hr).1
      rw [k110B, zl_e]
      show zc (fX11_sendDue_7 N N 0 b (some b) (Int32.ofNat 0) zB') _ = _
      rw [s1, zc_e]
  obtain ⟨z', w', g', R', mk', H', d1, d2, ⟨d3, d4, d5, d6, d7⟩, ⟨e1, e2, e3, e4, e5⟩, f1, f2⟩ := sC
  have Fz := zFCx_tr FzB (zFC_x f1)
  have Fw := zFMx_tr FwB (zFM_x f2)
  have eTA : zTA w' T = zTA w T := zTA_cg (fun c k _ _ => Fw.2.1 150 c k (by omega) (by omega))
  have ct' : zRCt z' b [] := ⟨by
    rw [f1.1 9 9 b (by omega) (by omega) (by omega)]
    show zgI (zsI zB 9 9 b 0) 9 9 b = _
    rw [zgI_sI, if_pos ⟨rfl, rfl, rfl⟩]; rfl, fun i e he => by cases he⟩
  have mt' : zRmT w' T b [] := ⟨by
    rw [f2.1 12 22 b (by omega) (by omega) (by omega) (by omega)]
    show zgI (zsI wB 12 22 b 0) 12 22 b = _
    rw [zgI_sI, if_pos ⟨rfl, rfl, rfl⟩]; rfl, fun i e he => by cases he⟩
  have rw' : zRw T E b (H', [], s.2.2) := zRw_up hRw e3 (fun n hn => by
    obtain ⟨m, m1, m2, m3, -⟩ := zHs_mem e4 hn
    obtain ⟨-, -, -, -, -, w6, w7, -⟩ := wN m m1
    exact ⟨Or.inl ⟨m, m1, m2⟩, by rw [m3]; exact ⟨w6, w7⟩, e5 n hn⟩) ⟨Nat.zero_le _, fun e he => by cases he⟩ wBw wm
  refine ⟨z', w', g', R', mk', (H', [], s.2.2), ?_, ?_, by rw [eTA]; exact d3, d4, fun c n v h => d5 c n v (b5 c n v (a5 c n v h)), zRch_tr a6 (zRch_tr b6 d6), fun c => ?_, ⟨⟨zRCh_hs e4 (zRCh_cg (Fz.1 9 1 b (by omega) (by omega) (by omega)) (fun i => Fz.2.1 131 b i (by omega) (by omega)) cH), e1, ct', zRCb_cg (fun k i hk => Fz.2.1 k b i (by omega) (by omega)) (fun o i _ _ => Fz.2.1 104 o i (by omega) (by omega)) cB, (Fz.1 0 7 b (by omega) (by omega) (by omega)).trans c7, (Fz.1 0 8 b (by omega) (by omega) (by omega)).trans c8⟩, ⟨⟨ids, e2⟩, mt', zRmB_cg (fun k i hk => Fw.2.1 k b i (by omega) (by omega)) (fun x r _ _ _ k _ => Fw.2.1 178 0 _ (by omega) (by omega)) mB, (Fw.1 12 16 b (by omega) (by omega) (by omega) (by omega)).trans m16, (Fw.1 12 17 b (by omega) (by omega) (by omega) (by omega)).trans m17, (Fw.1 12 18 b (by omega) (by omega) (by omega) (by omega)).trans m18⟩, rw', hRo, by rw [Fw.1 12 24 b (by omega) (by omega) (by omega) (by omega)]; exact h24⟩, rfl, rfl, e4, Fz, Fw⟩
  · rw [a1, b1, d1]
  · rw [a2, b2, d2]
  · have u := a7 c
    have v := b7 c
    have x := d7 c
    by_cases y : c = b
    · rw [if_pos y] at u v x ⊢; omega
    · rw [if_neg y] at u v x ⊢; omega
