/-! routers, the model: an advert comes (whole); a thanking comes -/
theorem zMV_now {w : St} {T : Tp} {E : Ev} {K : Int32 → Int32 → Int32 → Prop} {g : Sg} {X TS TA TB : List Nat} {t : Nat} (h : zMV w T E g K X TS TA TB) : zMV (zsI w 19 27 0 (Int32.ofNat t)) T E (sS g t) K X TS TA TB := by
  obtain ⟨h1, h2, h3, h4, h5, h8, h9⟩ := h
  have f : zFr 0x80000000000000000000000000000000000000000000000000000000000000000000000000000000000000000000000000000000000000000000000000000000000000000000000000000000000000000000000000000000000000000000000000000000000000000000000000000000000000000000000000000000000000000000000000000000000000000000000000000000000000000000000 w (zsI w 19 27 0 (Int32.ofNat t)) := zFr_I (zFr_rf _ _) (by decide)
  exact ⟨zTM_fr f (by decide) h1, h2, zEm_fr f (by decide) h3, h4, zMd_now h2 h5, zAm_fr f (by decide) h8, zHm_fr f (by decide) h9⟩
theorem zm_advertCame {w : St} {T : Tp} {E : Ev} {K : Int32 → Int32 → Int32 → Prop} {g : Sg} {X TS TB : List Nat} {b port rt_ d a p of_ num now N : Nat} {L : List En} {s : Rs} (h : zMV w T E g K X TS (zTA w T) TB) (hd : d ∈ X) (hd2 : d < 2400) (hTT : TS.length + TB.length ≤ 4000) (hb : b < tb T) (hrt : tr T b = true) (h0 : md w d 0 = zad p) (h9 : md w d 9 = Int32.ofNat port) (h12 : md w d 12 = Int32.ofNat rt_) (h11 : md w d 11 = Int32.ofNat a) (ha : a < 2400) (hA : zAdw w a of_ num L) (hps : tpo T rt_ (tq T b port / 8) = some p) (hpt : port < 6) (hr : rt_ < 16) (ho : of_ < 16) (hn : num ≤ 16000000) (hR : zRml w T b s) (hw : zRw T E b s) (hnow : zgI w 19 24 0 = Int32.ofNat now) (hn1 : 1 ≤ now) (hn2 : now ≤ 400000) (hN : 24 < N) :
    ∃ w', fX19_advertCame N 0 b (Int32.ofNat d) w = some (0, w') ∧ zMV w' T E (if fn (rH s) (16 * port + rt_) = true ∧ (rT s).length = 64 then sS g now else g) K X TS (zTA w' T) TB ∧ zKm X w w' ∧ zRml w' T b (rAdm b (16 * port + rt_) of_ num L now s) ∧
      (∀ k j o, ¬ (k = 12 ∧ (j = 17 ∨ j = 22 ∨ j = 23) ∧ o = b) → ¬ (k = 19 ∧ (j = 11 ∨ j = 27)) → zgI w' k j o = zgI w k j o) ∧ zgI w' 19 27 0 = (if fn (rH s) (16 * port + rt_) = true ∧ (rT s).length = 64 then Int32.ofNat now else zgI w 19 27 0) ∧ ((zgI w' 12 23 b = zgI w 12 23 b ∧ rB (rAdm b (16 * port + rt_) of_ num L now s) = rB s) ∨ zgI w' 12 23 b = 1) ∧ (∀ k o i, ¬ (o = b ∧ (k = 150 ∨ k = 151 ∨ k = 152 ∨ k = 153 ∨ k = 154)) → ¬ ((k = 162 ∨ k = 163) ∧ 16 * b ≤ o ∧ o < 16 * b + 16) → k ≠ 179 → k ≠ 180 → zgA w' k o i = zgA w k o i) ∧ zMr b w w' := by
  obtain ⟨⟨ids, hM⟩, hT, hB, h16, h17, h18⟩ := id hR
  obtain ⟨wH, wN, wT, wB, wm⟩ := hw
  have hb0 := (h.1.2.1.2 b hb).2.1
  have bn := bNum_le wB of_
  rcases zm_friend hM wH.1 hpt hr (N := N) (by omega) with ⟨cf, e⟩ | ⟨cf, i, n, i1, i2, e⟩
  · have eA : rAdm b (16 * port + rt_) of_ num L now s = s := by unfold rAdm; rw [if_pos cf]
    rw [eA]
    refine ⟨w, ?_, by rw [cf, if_neg (by simp)]; exact h, zKm_rf _ _, hR, fun _ _ _ _ _ => rfl, by rw [cf, if_neg (by simp)], Or.inl ⟨rfl, rfl⟩, fun _ _ _ _ _ _ _ => rfl, zMr_rf _ _⟩
    have o9 : fX19_of N 0 (Int32.ofNat d) (9 : Int32) w = some (Int32.ofNat port, w) := by
      have := zm_of (w := w) (N := N) (k := 9) hd2 (by omega); rw [h9] at this; exact this
    have o12 : fX19_of N 0 (Int32.ofNat d) (12 : Int32) w = some (Int32.ofNat rt_, w) := by
      have := zm_of (w := w) (N := N) (k := 12) hd2 (by omega); rw [h12] at this; exact this
    unfold fX19_advertCame
    rw [o9, zc_e, o12, zc_e, e, zc_e]
    rfl
  · obtain ⟨w1, r1, t1, f1, I1, s1, A1, L1, Q1, K1⟩ := zm_advThanks (N := N) hd2 h0 h9 h12 h11 ha hA.1.1 hA.1.2 hps hpt hr ho hT wT.1 hnow e
    have TA1 : zTA w1 T = zTA w T := zTA_cg (fun c k _ _ => A1 150 c k (by omega))
    have hg : (if fn (rH s) (16 * port + rt_) = true ∧ (rT s).length = 64 then sS g now else g) = (if (rT s).length = 64 then sS g now else g) := by
      by_cases c : (rT s).length = 64
      · rw [if_pos c, if_pos ⟨cf, c⟩]
      · rw [if_neg c, if_neg (fun y => c y.2)]
    rw [hg]
    have V1 : zMV w1 T E (if (rT s).length = 64 then sS g now else g) K X TS (zTA w1 T) TB := by
      rw [TA1]
      refine zMV_fr f1 (by decide) (fun k o i => L1 k o i) ?_
      rw [s1]
      by_cases c : (rT s).length = 64
      · rw [if_pos c, if_pos c]; exact zMV_now h
      · rw [if_neg c, if_neg c, zsI_id]; exact h
    have M1 : zRmI w1 b (rH s) ids := zRmI_cg (I1 _ _ _ (by omega) (by omega)) (fun _ => Q1 _ _ _) (fun x _ _ => ⟨fun _ _ => I1 _ _ _ (by omega) (by omega), fun k j hk => A1 k x j (by omega)⟩) hM
    have B1 : zRmB w1 b (rB s) := zRmB_cg (fun k j hk => A1 k b j (by omega)) (fun x _ _ _ _ k _ => A1 178 0 _ (by omega)) hB
    obtain ⟨w', r2, V2, k2, m2, I2, A2, K2⟩ := zm_adv125 (N := N) V1 hd ((A1 172 0 _ (by omega)).trans h11) hTT hb hrt ha (zAdw_cg (fun k _ => A1 178 0 _ (by omega)) hA) ho hn M1 wH.1 i1 i2 B1 bn ((I1 _ _ _ (by omega) (by omega)).trans hb0) ((I1 _ _ _ (by omega) (by omega)).trans h17) wm.2.2 ((I1 _ _ _ (by omega) (by omega)).trans hnow) hn1 hn2 hN
    have T2 : zRmT w' T b (rThx s (16 * port + rt_, of_, num)) := zRmT_cg (I2 _ _ _ (by omega) (by omega)) (fun k j hk => A2 k b j (by omega) (by omega) (by omega) (by omega)) t1
    have km1 : zKm X w w1 := ⟨fun d k _ _ => A1 172 0 _ (by omega), fun k i => A1 174 k i (by omega), fun k i => A1 178 k i (by omega), fun k o i => L1 k o i⟩
    have x16 : zgI w' 12 16 b = Int32.ofNat (ro s) := ((I2 _ _ _ (by omega) (by omega)).trans (I1 _ _ _ (by omega) (by omega))).trans h16
    have x18 : zgI w' 12 18 b = (if ro s = 0 then (-1000000 : Int32) else Int32.ofNat (rm s)) := ((I2 _ _ _ (by omega) (by omega)).trans (I1 _ _ _ (by omega) (by omega))).trans h18
    have e23 : zgI w1 12 23 b = zgI w 12 23 b := I1 _ _ _ (by omega) (by omega)
    refine ⟨w', r1.trans r2, V2, zKm_tr km1 k2, ?_, fun k j o n1 n2 => (I2 k j o (fun y => n1 ⟨y.1, by omega, y.2.2⟩) (fun y => n2 ⟨y.1, Or.inl y.2⟩)).trans (I1 k j o (fun y => n1 ⟨y.1, by omega, y.2.2⟩) (fun y => n2 ⟨y.1, Or.inr y.2⟩)), ?_, ?_, fun k o j n1 n2 n3 n4 => (A2 k o j (fun y => n1 ⟨y.1, by omega⟩) n2 n3 n4).trans (A1 k o j (fun y => n1 ⟨y.2, by omega⟩)), zMr_tr K1 K2⟩
    · unfold rAdm
      rw [if_neg (by rw [cf]; simp)]
      by_cases c : num ≤ bNum (rB s) of_ ∨ of_ = b
      · rw [if_pos c] at m2
        rw [if_pos c]
        exact ⟨⟨ids, m2.1⟩, T2, m2.2.1, x16, m2.2.2.1, x18⟩
      · rw [if_neg c] at m2
        rw [if_neg c]
        exact ⟨⟨ids, m2.1⟩, T2, m2.2.1, x16, m2.2.2.1, x18⟩
    · rw [I2 19 27 0 (by omega) (by omega), s1]
      by_cases c : (rT s).length = 64
      · rw [if_pos c, if_pos ⟨cf, c⟩]
      · rw [if_neg c, if_neg (fun y => c y.2)]
    · unfold rAdm
      rw [if_neg (by rw [cf]; simp)]
      by_cases c : num ≤ bNum (rB s) of_ ∨ of_ = b
      · rw [if_pos c] at m2
        rw [if_pos c]
        exact Or.inl ⟨m2.2.2.2.trans e23, rfl⟩
      · rw [if_neg c] at m2
        exact Or.inr m2.2.2.2
/-- what a thanking tells -/
theorem ztold {o n : Nat} (ho : o < 16) (hn : n ≤ 16000000) : (((Int32.ofNat o <<< ((24 : Int32) &&& 31)) ||| Int32.ofNat n) >>> ((24 : Int32) &&& 31)) &&& (255 : Int32) = Int32.ofNat o ∧ ((Int32.ofNat o <<< ((24 : Int32) &&& 31)) ||| Int32.ofNat n) &&& (16777215 : Int32) = Int32.ofNat n := by
  have e : (Int32.ofNat o <<< ((24 : Int32) &&& 31)) ||| Int32.ofNat n = Int32.ofNat (o * 16777216 + n) := by
    apply zun_inj
    rw [zor_n, zshl (k := 24) (by omega) (by omega) _ (by decide), zun_of (by omega), zun_of (by omega)]
    have := Nat.shiftLeft_add_eq_or_of_lt (i := 24) (b := n) (by omega) o
    rw [Nat.shiftLeft_eq] at this
    exact this.symm
  rw [e]
  refine ⟨?_, ?_⟩
  · rw [zsar (k := 24) (by omega) (by omega) _ (by decide), zando (by omega)]
    congr 1
    omega
  · apply zun_inj
    show ((Int32.ofNat (o * 16777216 + n)).toBitVec &&& 16777215#32).toNat = _
    rw [BitVec.toNat_and, show (16777215#32 : BitVec 32).toNat = 2 ^ 24 - 1 from rfl, Nat.and_two_pow_sub_one_eq_mod]
    show zun (Int32.ofNat _) % _ = _
    rw [zun_of (by omega), zun_of (by omega)]
    omega
/-- nothing is due at who is no friend: nothing to be cleared -/
theorem hDue_nf {H : List Nb} {key r : Nat} (hH : zHn H) (hr : r < 16) (hf : fn H key = false) : hDue H key r 0 = H := by
  unfold hDue hUpd
  conv => rhs; rw [← List.map_id H]
  refine List.map_congr_left (fun n hn => ?_)
  by_cases c : n.1 = key
  · rw [if_pos c]
    have : n.2.2.1 = false := by rw [← c, fn_mem hH.1.2.1 hn] at hf; exact hf
    have z : n.2.2.2 r = 0 := hH.2 n hn this r hr
    have e : zupd n.2.2.2 r 0 = n.2.2.2 := by
      funext k
      by_cases d : k = r
      · rw [d, zupd_s, z]
      · exact zupd_n d
    show ((n.1, n.2.1, n.2.2.1, zupd n.2.2.2 r 0) : Nb) = n
    rw [e]
  · rw [if_neg c]; rfl
theorem zm_thanking {w : St} {T : Tp} {E : Ev} {K : Int32 → Int32 → Int32 → Prop} {g : Sg} {X TS TB : List Nat} {b port rt_ d of_ num N : Nat} {s : Rs} (h : zMV w T E g K X TS (zTA w T) TB) (hd2 : d < 2400) (hb : b < tb T) (hrt : tr T b = true) (h9 : md w d 9 = Int32.ofNat port) (h12 : md w d 12 = Int32.ofNat rt_) (h13 : md w d 13 = (Int32.ofNat of_ <<< ((24 : Int32) &&& 31)) ||| Int32.ofNat num) (hpt : port < 6) (hr : rt_ < 16) (ho : of_ < 16) (hn0 : 1 ≤ num) (hn : num ≤ 16000000) (hR : zRml w T b s) (hw : zRw T E b s) (hN : 24 < N) :
    ∃ w', fX19_handle_162 N 0 b (Int32.ofNat d) (4 : Int32) w = some (0, w') ∧ zMV w' T E g K X TS (zTA w' T) TB ∧ zRml w' T b (rThk (16 * port + rt_) of_ num s) ∧ zMh b w w' := by
  obtain ⟨⟨ids, hM⟩, hT, hB, h16, h17, h18⟩ := id hR
  obtain ⟨wH, wN, wT, wB, wm⟩ := hw
  have hb1 := (h.1.2.1.2 b hb).2.2.1
  rw [hrt] at hb1
  have bn := bNum_le wB of_
  have o9 : fX19_of N 0 (Int32.ofNat d) (9 : Int32) w = some (Int32.ofNat port, w) := by
    have := zm_of (w := w) (N := N) (k := 9) hd2 (by omega); rw [h9] at this; exact this
  have o12 : fX19_of N 0 (Int32.ofNat d) (12 : Int32) w = some (Int32.ofNat rt_, w) := by
    have := zm_of (w := w) (N := N) (k := 12) hd2 (by omega); rw [h12] at this; exact this
  have o13 : fX19_of N 0 (Int32.ofNat d) (13 : Int32) w = some ((Int32.ofNat of_ <<< ((24 : Int32) &&& 31)) ||| Int32.ofNat num, w) := by
    have := zm_of (w := w) (N := N) (k := 13) hd2 (by omega); rw [h13] at this; exact this
  obtain ⟨u1, u2⟩ := ztold ho hn
  rcases zm_friend hM wH.1 hpt hr (N := N) (by omega) with ⟨cf, e⟩ | ⟨cf, i, n, i1, i2, e⟩
  · have eA : rThk (16 * port + rt_) of_ num s = s := by
      unfold rThk
      by_cases c : bNum (rB s) of_ = num
      · rw [if_pos c, hDue_nf wH ho cf]; rfl
      · rw [if_neg c]
    rw [eA]
    refine ⟨w, ?_, h, hR, zMh_rf _ _⟩
    unfold fX19_handle_162
    rw [if_neg (fun y => y rfl), hb1, if_neg (by decide), o9, zc_e, o12, zc_e, e, zc_e, o13, zc_e, zl_e]
    show fX19_handle_226 N 0 (Int32.ofNat d) none _ (-1) w = _
    unfold fX19_handle_226
    rw [if_pos rfl]
  · have run : fX19_handle_162 N 0 b (Int32.ofNat d) (4 : Int32) w = fX19_handle_226 N 0 (Int32.ofNat d) (some (ids i)) (Int32.ofNat of_) (zgA w 150 b of_) w := by
      unfold fX19_handle_162
      rw [if_neg (fun y => y rfl), hb1, if_neg (by decide), o9, zc_e, o12, zc_e, e, zc_e, o13, zc_e, zl_e, zo_e, u1, zkk ho (by omega), zoC (by omega)]
    rcases bNum_m hB ho with ⟨c1, c2⟩ | ⟨x, c1, c2, c3⟩
    · have eA : rThk (16 * port + rt_) of_ num s = s := by
        unfold rThk
        rw [if_neg (by omega)]
      rw [eA]
      refine ⟨w, ?_, h, hR, zMh_rf _ _⟩
      rw [run]
      unfold fX19_handle_226
      rw [if_pos c1]
    · have e1 : fX19_ad N 0 (Int32.ofNat x) (1 : Int32) w = some (Int32.ofNat (bNum (rB s) of_), w) := by
        have := zm_ad (w := w) (N := N) (k := 1) c1 (by omega); rw [c3] at this; exact this
      have run2 : fX19_handle_162 N 0 b (Int32.ofNat d) (4 : Int32) w = if bNum (rB s) of_ = num then some (0, zsA w 162 (ids i) of_ 0) else some (0, w) := by
        have vp : vp_nar .boolean (0 : Int32) = 0 := by decide
        rw [run]
        unfold fX19_handle_226
        rw [c2, if_neg (zo_ne1 (by omega)), e1, zc_e, o13, zc_e, u2]
        by_cases c : bNum (rB s) of_ = num
        · rw [if_neg (by rw [zo_eq (by omega) (by omega)]; exact fun y => y c), if_pos c, zd_e, zkk ho (by omega), zoC (by omega), vp, zl_e]
        · rw [if_pos (by rw [zo_eq (by omega) (by omega)]; exact c), if_neg c]
      unfold rThk
      by_cases c : bNum (rB s) of_ = num
      · rw [if_pos c] at run2
        rw [if_pos c]
        obtain ⟨m1, f1⟩ := zm_noDue (r := of_) hM wH.1.2.1 i1
        rw [i2] at m1
        have TA1 : zTA (zsA w 162 (ids i) of_ 0) T = zTA w T := zTA_cg (fun c k _ _ => f1.2.1 150 c k (by omega))
        refine ⟨_, run2, by rw [TA1]; exact zMV_mh f1 h, ⟨⟨ids, m1⟩, zRmT_mh f1 hT, zRmB_mh f1 hB, (f1.1 _ _ _).trans h16, (f1.1 _ _ _).trans h17, (f1.1 _ _ _).trans h18⟩, f1⟩
      · rw [if_neg c] at run2
        rw [if_neg c]
        exact ⟨w, run2, h, hR, zMh_rf _ _⟩
