/-! routers: an advert that is due is told, both sides -/
theorem zKr_dueI {b : Nat} {z z' : St} (hI : ∀ k j o, ¬ (k = 9 ∧ j = 5 ∧ o = b) → zgI z' k j o = zgI z k j o) (hA : ∀ k o i, ¬ (k = 135) → zgA z' k o i = zgA z k o i) (hK : zKr b z z') : zFr 0x80000000000000000000000000000000000000000000000000000000000000000000000000000000000000000000000000000000000000000000000000000000000000000000000000000000000000000000000000000000000000020000000000000000000000000000000000000000000000000000000000000000000000000000000000000000000000000000000000000000000000000000000000000000000000000 z z' := ⟨fun k j o _ hm => ⟨hI k j o (fun y => by
  obtain ⟨rfl, rfl, -⟩ := y
  revert hm; decide), hK.2.2.2.2 k j o⟩, fun k o i hm => ⟨hA k o i (fun y => by
  subst y
  revert hm; decide), hK.2.2.1 k o i, hK.2.2.2.1 k o i⟩⟩
theorem zp_tell1 {Q : Qt} {z w : St} {T : Tp} {E : Ev} {g : Sg} {Wy : Wyt} {R : Rg} {mk : Nat → Nat} {K : Int32 → Int32 → Int32 → Prop} {TS TA TB : List Nat} {b i r num t t0 nn nn' N : Nat} {H : List Nb} {ids : Nat → Nat} {Ba : Nat → Option Ad} {L : List En} {n : Nb} {K7 : Nat → Nat → Option Nat → Int32 → St → Option (Int32 × St)} {K155 : Nat → Nat → Int32 → St → Option (Int32 × St)} (hp : zIp z w T E g g Wy R mk K [] [] TS TA TB) (hok : zRok Q T R) (hm : mk b < 2147483646) (hE4 : eN E ≤ 400000) (hb : b < tb T) (hr : tr T b = true) (hk : zRCk z b H) (hB : zRCb z b Ba) (hM : zRmI w b H ids) (hMB : zRmB w b Ba) (hH : zHn H) (hw : zKok T b n.1) (hBa : Ba r = some (num, t, L)) (hnum : 1 ≤ num ∧ num ≤ 16000000) (hL : zEn L) (hQ : Q r num L) (hTA : ∀ x, x < 2400 → zgA w 150 b r = Int32.ofNat x → x ∈ TA) (hi : H[i]? = some n) (hr16 : r < 16) (hfr : n.2.2.1 = true) (ht : n.2.2.2 r = t0) (ht0 : t0 ≠ 0) (htn : t0 ≤ eN E) (hN : 1481 < N) :
    ∃ z' w' g' R', fX11_sendDue_26 N K7 (nn + 1) 0 b b (Int32.ofNat i) (Int32.ofNat n.1) (Int32.ofNat r) z = fX11_sendDue_26 N K7 nn 0 b b (Int32.ofNat i) (Int32.ofNat n.1) (Int32.ofNat (r + 1)) z' ∧ fX19_routerSpeaks_174 N K155 (nn' + 1) 0 b (Int32.ofNat i) (some (ids i)) (Int32.ofNat r) w = fX19_routerSpeaks_174 N K155 nn' 0 b (Int32.ofNat i) (some (ids i)) (Int32.ofNat (r + 1)) w' ∧ zIp z' w' T E g' g' Wy R' (zupd mk b (mk b + 1)) K [] [] TS TA TB ∧ zRok Q T R' ∧ (∀ c n v, R c n = some v → R' c n = some v) ∧ zRch T E b (PDr Q T) g g' ∧ zRCk z' b (hDue H n.1 r (eN E + 15)) ∧ zRmI w' b (hDue H n.1 r (eN E + 15)) ids ∧ zFC b z z' ∧ zFM b w w' := by
  have hT := hp.1.1.1
  have hc := hp.1.1.2.1
  have hnowC : zgI z 11 4 0 = Int32.ofNat (eN E) := hp.1.1.2.2.1.1
  have hMT := hp.1.2.1.1
  have hnowM : zgI w 19 24 0 = Int32.ofNat (eN E) := hp.1.2.1.2.2.1.1
  have t6 := tp_le hc hb
  have b16 := hc.1
  have hl := hL.1
  have hnm := List.mem_of_getElem? hi
  have i16 := (List.getElem?_eq_some_iff.mp hi).1
  have h16 := hH.1.2.2
  have n24 := hc.2.1
  obtain ⟨k1, k2, k3, k4, p, hpo⟩ := hw
  have k96 : n.1 < 96 := by omega
  have v := tv_q hc hb k1
  have vw := (hc.2.2.2.2.2.2.1 b (n.1 / 16) hb k1).2.1
  obtain ⟨pv, pw, p8, -, -⟩ := tpo_some hc k2 hpo
  generalize hq : tq T b (n.1 / 16) = q at *
  have v1 := v.1
  have ps : p % 8 ≠ q % 8 := fun e => k4 (by
    have : p = q := by omega
    rw [← pw, this, vw])
  have efd : fd H n.1 r = t0 := by
    unfold fd
    rw [hAt_mem hH.1.2.1 hnm]; exact ht
  -- the class makes it
  obtain ⟨z3, q3, kd3, f3, A3, n3'⟩ := zc_putAdvert (c := b) (N := N) hB hBa hr16 hL (by omega)
  have n3 : zgA z3 113 b 2 = Int32.ofNat (mk b) := (n3' b 2).trans (hp.2.1.2 b hb).1
  have ad := zc_addr (N := N) (zTC_fr (zKd_f kd3) (by decide) hT) hc hb k96 k1 k2 (by rw [hq]; exact hpo) (by omega)
  rw [hq, n3] at ad
  obtain ⟨z4, h4⟩ : ∃ y, y = zAdr z3 b q (zad p) (Int32.ofNat (mk b) + 1) (Int32.ofNat (mk b)) := ⟨_, rfl⟩
  rw [← h4] at ad
  have kd4 : zKd b z z4 := zKd_tr kd3 (by rw [h4]; exact zKd_adr)
  obtain ⟨B, hBB⟩ : ∃ B, B = zgA z3 125 0 := ⟨_, rfl⟩
  have D4 : zPC 11 z4 0 (dMk q (zad p) 3 (Int32.ofNat (mk b)) (12 + 6 * L.length) B) := by rw [h4, hBB]; exact zPC_adr f3
  rw [← hBB] at A3
  have t4 : zgA z4 113 b 2 = zgA z 113 b 2 + 1 := by rw [h4, zAdr_n, (hp.2.1.2 b hb).1]
  -- the model makes it
  obtain ⟨c0, c1, -, c3, c4⟩ := hM.2.2 i n hi
  obtain ⟨d1, d2⟩ := c4 r hr16
  rw [ht, decide_eq_true ht0] at d1
  have d2 : zgA w 163 (ids i) r = Int32.ofNat t0 := by have := d2 (by rw [ht]; exact ht0); rw [ht] at this; exact this
  have hMr := hMB r hr16
  rw [hBa] at hMr
  obtain ⟨a, a1, a2, -, a3⟩ := hMr
  have a3 : zAdw w a r num L := a3
  have haT := hTA a a1 a2
  let w0 : St := zsA w 163 (ids i) r (Int32.ofNat (eN E + 15))
  have idb := (hM.1.2.1 i (by omega)).1
  have idb2 := (hM.1.2.1 i (by omega)).2.1
  have fh : zMh b w w0 := zMh_A ⟨Or.inr rfl, idb, idb2⟩
  have hp0 := zIp_mh fh hp
  have M0 : zRmI w0 b (hDue H n.1 r (eN E + 15)) ids := zRmI_due hM hH.1.2.1 hi (fun _ _ _ => rfl) (fun _ _ _ => rfl) (fun k o j nk => by
    show zgA (zsA w 163 (ids i) r _) k o j = _
    rw [zgA_sA, if_neg (fun y => nk ⟨Or.inr y.1, y.2⟩)]) (by
    show zgA (zsA w 163 (ids i) r _) 162 (ids i) r = _
    rw [zgA_sA, if_neg (by omega), d1, decide_eq_true (by omega)]) (fun _ => by
    show zgA (zsA w 163 (ids i) r _) 163 (ids i) r = _
    rw [zgA_sA, if_pos ⟨rfl, rfl, rfl⟩])
  have w00 : zgI w0 12 0 b = Int32.ofNat b := (hMT.2.1.2 b hb).2.1
  have w04 : zgI w0 12 4 b = Int32.ofNat (mk b) := by
    have e : zgI w0 12 4 b = zgI w 12 4 b := rfl
    rw [e, ← (hp.1.2.2.2.2.2.2.1 b hb).1]; exact (hp.2.1.2 b hb).1
  have ad0 : zAdw w0 a r num L := zAdw_cg (fun k _ => by
    show zgA (zsA w 163 (ids i) r _) 178 0 _ = _
    rw [zgA_sA, if_neg (by omega)]; rfl) a3
  obtain ⟨w1, w2, d, r1, r2, r3, r3', r4, r5, r6, r7, r8, r9⟩ := zm_mkAd (q := q) (n := mk b) (goal := zad p) (N := N) hc (by simp) hp0.1.2.1.2.2.2.2.1.2.2 w00 w04 hL v vw a1 haT ad0 A3 (by omega)
  obtain ⟨hp1, hPD, mono⟩ := zIp_made (len := 12 + 6 * L.length) (q := q) (goal := zad p) (kind := 3) (B := B) hp0 hb hm v vw (by decide) (by omega) (by omega) kd4 t4 r5 r8 r9
  have kk : (dMk q (zad p) 3 (Int32.ofNat (mk b)) (12 + 6 * L.length) B).1 2 = 3 := rfl
  have rk : zRkD Q T q (dMk q (zad p) 3 (Int32.ofNat (mk b)) (12 + 6 * L.length) B) := Or.inr (Or.inl ⟨rfl, r, num, L, hr16, hnum.1, hnum.2, A3, hL, (dMk_w (by omega)).1, hQ⟩)
  obtain ⟨z5, w3, s1, s2, s3, s4, s5, s6, s7⟩ := zIp_hand (s := p % 8) (N := N) hp1 v (by omega) D4 hPD (by rw [kk]; decide) List.mem_cons_self (by simp) r6 hN
  obtain ⟨w5, u1, u2, u3, u4⟩ := zIp_drop (N := N) s3
  rw [vw] at s3 u2
  -- it is due again
  have F5 : ∀ c, zFC c z z5 := fun c => zFC_tr (zFC_kdc kd4) (zFC_hand s6 s4)
  have k5 : zRCk z5 b H := zRCk_cz ((F5 (b + 1)).1 9 5 b (by omega) (by omega) (by omega)) (fun i => (F5 (b + 1)).2.1 132 b i (by omega) (by omega)) (fun i => (F5 (b + 1)).2.1 133 b i (by omega) (by omega)) (fun o i _ _ => (F5 (b + 1)).2.1 135 o i (by omega) (by omega)) hk
  obtain ⟨z6, x1, x2, x3, x4, x5⟩ := zc_setDue (N := N) (t := eN E + 15) k5 hH.1 k96 hr16 (by omega) (Or.inl ⟨n, hnm, rfl⟩)
  have fx : zFr 0x80000000000000000000000000000000000000000000000000000000000000000000000000000000000000000000000000000000000000000000000000000000000000000000000000000000000000000000000000000000000000020000000000000000000000000000000000000000000000000000000000000000000000000000000000000000000000000000000000000000000000000000000000000000000000000 z5 z6 := zKr_dueI x3 (fun k o i nk => x4 k o i (fun y => nk y.1)) x5
  have u2' := zIp_kr fx (by decide) (by decide) (by decide) (by decide) (fun j u => x3 7 j u (by omega)) (fun k o i hk => x4 k o i (by omega)) u2
  have FM : ∀ c, zFM c w0 w5 := fun c => zFM_tr (zFM_make r8) (zFM_tr (zFM_deliver s7) (zFM_drop u4))
  refine ⟨z6, w5, _, _, ?_, ?_, u2', zRok_new v vw rfl rk hok, mono, ?_, x2, ?_, ?_, ?_⟩
  · show fX11_sendDue_26b N K7 (fX11_sendDue_26 N K7 nn) 0 b b (Int32.ofNat i) (Int32.ofNat n.1) (Int32.ofNat r) z = _
    unfold fX11_sendDue_26b fX11_sendDue_112
    have e135 : zgA z 135 (b * 96 + n.1) r = Int32.ofNat t0 := by rw [(hk.2 n.1 k96).2.2 r hr16, efd]
    have r9 := (hT.2.2.1.1 b hb hr).2.1
    have e13 : zgR z 11 13 0 = some 0 := hT.1.2.2.1
    have e83 : zgI z4 8 3 p = Int32.ofNat (p % 8) := (kd4.1 8 3 p (by omega)).trans (hT.2.2.2 p pv).2.2.2.1
    have e112 : zgQ z4 112 b (n.1 / 16) = some q := by rw [kd4.2.2.2.1, ← hq]; exact (hT.2.1.2 b hb).2.2.2.2.1 _ k1
    have now5 : zgI z5 11 4 0 = Int32.ofNat (eN E) := u2.1.1.2.2.1.1
    rw [if_neg (by rw [show (16 : Int32) = Int32.ofNat 16 from rfl, zo_le (by omega) (by omega)]; omega), zkk k96 (by omega), zkk hr16 (by omega), zoC (show n.1 < 2147483648 by omega), zoC (show r < 2147483648 by omega), e135, zl_e, if_neg (by rw [show (0 : Int32) = Int32.ofNat 0 from rfl, zo_eq (by omega) (by omega)]; exact ht0), hnowC, if_pos (by rw [zo_le (by omega) (by omega)]; exact htn), zl_e, r9, e13, zl_e, zd_e, zd_e, q3, zc_e, ad, zc_e, zo_e, zdv16 n.1 k96, zkk (show n.1 / 16 < 6 by omega) (by omega), zoC (show n.1 / 16 < 2147483648 by omega), zl_e, e112, ze13 hT kd4, zl_e, zd_e, zd_e, e83, s1, zc_e, now5, show (15 : Int32) = Int32.ofNat 15 from rfl, zo_add, x1, zc_e]
    unfold fX11_sendDue_127
    rw [zo_i1, zl_e]
  · show fX19_routerSpeaks_174b N K155 (fX19_routerSpeaks_174 N K155 nn') 0 b (Int32.ofNat i) (some (ids i)) (Int32.ofNat r) w = _
    unfold fX19_routerSpeaks_174b fX19_routerSpeaks_255
    have e150 : zgA w0 150 b r = Int32.ofNat a := by
      show zgA (zsA w 163 (ids i) r _) 150 b r = _
      rw [zgA_sA, if_neg (by omega)]; exact a2
    have tellrun : fX19_tellAdvert N 0 b (ids i) (Int32.ofNat a) w0 = some (0, w5) := by
      unfold fX19_tellAdvert
      have T0 : zTM w0 T := hp0.1.2.1.1
      have g0 : zgI w0 15 0 (ids i) = Int32.ofNat (n.1 / 16) := c0
      have g1 : zgI w0 15 1 (ids i) = Int32.ofNat (n.1 % 16) := c1
      have g147 : zgQ w0 147 b (n.1 / 16) = some q := by rw [← hq]; exact (T0.2.1.2 b hb).2.2.2.2 _ k1
      have g186 : zgQ w0 186 0 (n.1 % 16) = some (n.1 % 16) := (T0.2.1.2 _ k2).1
      have g182 : zgR w0 18 2 q = some (q / 8) := (T0.2.2.2 _ v).2.1
      have gst := zm_stationOf (n := q / 8) (N := N) T0 hc k2 (by omega)
      rw [hpo] at gst
      have gst : fX19_stationOf N (n.1 % 16) (q / 8) w0 = some (Int32.ofNat (p % 8), w0) := gst
      obtain ⟨-, nN, ⟨nl, -⟩, e2, e3, -, -⟩ := ad0
      have ga2 : fX19_ad N 0 (Int32.ofNat a) (2 : Int32) w0 = some (Int32.ofNat nN, w0) := by rw [← e2]; exact zm_ad (k := 2) a1 (by omega)
      have ga3 : fX19_ad N 0 (Int32.ofNat a) (3 : Int32) w0 = some (Int32.ofNat (L.length - nN), w0) := by rw [← e3]; exact zm_ad (k := 3) a1 (by omega)
      have g164 : zgQ w0 164 (q / 8) (p % 8) = some p := by
        have := (T0.2.1.1 _ v1).2.2.2 (p % 8) (by have := pv.2; rw [p8] at this; exact this)
        rw [this, show 8 * (q / 8) + p % 8 = p from by omega]
      rw [g0, zkk (show n.1 / 16 < 6 by omega) (by omega), zoC (show n.1 / 16 < 2147483648 by omega), zl_e, g147, g1, zkk (show n.1 % 16 < 16 by omega) (by omega), zoC (show n.1 % 16 < 2147483648 by omega), zl_e, g186, zd_e, zl_e, g182, zd_e, zd_e, gst, zc_e, ga2, zc_e, ga3, zc_e, zm_address T0 hc v N, zc_e, zl_e, g182, zd_e, zkk (show p % 8 < 8 by omega) (by omega), zoC (show p % 8 < 2147483648 by omega), zl_e, g164, zd_e, zm_address T0 hc pv N, zc_e, zo_add, show nN + (L.length - nN) = L.length from by omega, e126, r1, zc_e, r2, zc_e, r3, zc_e, zkk a1 (by omega), zkk a1 (by omega), zoC (show a < 2147483648 by omega), ← r3', zl_e, s2, zc_e, u1, zc_e]
    rw [zd_e, c3, hfr, if_neg (by decide), if_neg (by rw [show (16 : Int32) = Int32.ofNat 16 from rfl, zo_le (by omega) (by omega)]; omega), zkk hr16 (by omega), zoC (show r < 2147483648 by omega), d1, if_neg (by decide), zkk hr16 (by omega), a2, if_neg (zo_ne1 (by omega)), zkk hr16 (by omega), hnowM, d2, if_neg (by rw [zo_lt (by omega) (by omega)]; omega), zkk hr16 (by omega), show (15 : Int32) = Int32.ofNat 15 from rfl, zo_add, zl_e, zkk hr16 (by omega)]
    show zc (fX19_tellAdvert N 0 b (ids i) (zgA w0 150 b r) w0) _ = _
    rw [e150, tellrun, zc_e, zo_i1, zl_e]
  · intro I ah _ h
    exact ah g q (p % 8) _ v vw (by omega) ⟨Or.inr (Or.inl rfl), rfl, rk, zDw_mk (by omega) (by omega), rfl, Or.inr ⟨p % 8, by omega, rfl, ps⟩⟩ h
  · exact zRmI_cg ((FM (b + 1)).1 12 13 b (by omega) (by omega) (by omega) (by omega)) (fun j => (FM (b + 1)).2.2.1 b j) (fun x y1 y2 => ⟨fun j _ => (FM (b + 1)).1 15 j x (by omega) (by omega) (by omega) (by omega), fun k j hk => (FM (b + 1)).2.1 k x j (by omega) (by omega)⟩) M0
  · exact zFC_tr (F5 b) ⟨fun k j o a _ n' => x3 k j o (fun y => n' (by omega)), fun k o i a n' => x4 k o i (fun y => n' (by omega)), fun u y1 y2 => ⟨fun j => x3 7 j u (by omega), fun i => x4 125 u i (by omega)⟩⟩
  · have f0 : zFM b w w0 := ⟨fun _ _ _ _ _ _ _ => rfl, fun k o j a n' => by
      show zgA (zsA w 163 (ids i) r _) k o j = _
      rw [zgA_sA, if_neg (fun y => n' (by omega))], fun _ _ => rfl, fun _ _ _ => rfl⟩
    exact zFM_tr f0 (FM b)
