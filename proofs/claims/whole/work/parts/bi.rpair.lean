/-! routers: what comes from other routers is heard alike -/
/-- what is so of adverts that are told: whose, number, entries -/
abbrev Qt : Type := Nat → Nat → List En → Prop
/-- a router's datagram of a port p -/
def zRkD (Q : Qt) (T : Tp) (p : Nat) (D : Dg) : Prop :=
  (D.1 2 = 2 ∧ ∃ k, k ≤ 16 ∧ g2 D.2 0 = Int32.ofNat (tw T p) ∧ g2 D.2 2 = Int32.ofNat k ∧ dw D = 8 + 2 * k ∧ ∀ i, i < k → ∃ n, n < 16 ∧ g2 D.2 (8 + 2 * i) = Int32.ofNat n) ∨
  (D.1 2 = 3 ∧ ∃ (of_ num : Nat) (L : List En), of_ < 16 ∧ 1 ≤ num ∧ num ≤ 16000000 ∧ zAe D.2 of_ num L ∧ zEn L ∧ dw D = 12 + 6 * L.length ∧ Q of_ num L) ∨
  (D.1 2 = 4 ∧ ∃ of_ num : Nat, of_ < 16 ∧ 1 ≤ num ∧ num ≤ 16000000 ∧ g2 D.2 0 = Int32.ofNat of_ ∧ g4 D.2 2 = Int32.ofNat num ∧ dw D = 8)
/-- router b, both sides -/
def zRp (z w : St) (T : Tp) (E : Ev) (b : Nat) (s : Rs) : Prop := zRcl z b s ∧ zRml w T b s ∧ zRw T E b s ∧ bNum (rB s) b ≤ ro s ∧ (zgI w 12 24 b = 0 ∨ zgI w 12 24 b = 1)
theorem rAdm_ro {b key of_ num : Nat} {L : List En} {now : Nat} {s : Rs} (ho : bNum (rB s) b ≤ ro s) : bNum (rB (rAdm b key of_ num L now s)) b ≤ ro (rAdm b key of_ num L now s) := by
  unfold rAdm
  by_cases c : fn (rH s) key = false
  · rw [if_pos c]; exact ho
  · rw [if_neg c]
    by_cases d : num ≤ bNum (rB s) of_ ∨ of_ = b
    · rw [if_pos d]; exact ho
    · rw [if_neg d]
      show bNum (bSet (rB s) of_ (some (num, now, L))) b ≤ ro s
      have : bSet (rB s) of_ (some (num, now, L)) b = rB s b := if_neg (fun y => d (Or.inr y.symm))
      unfold bNum at ho ⊢
      rw [this]; exact ho
theorem rThk_ro {b key of_ num : Nat} {s : Rs} (ho : bNum (rB s) b ≤ ro s) : bNum (rB (rThk key of_ num s)) b ≤ ro (rThk key of_ num s) := by
  unfold rThk
  by_cases c : bNum (rB s) of_ = num
  · rw [if_pos c]; exact ho
  · rw [if_neg c]; exact ho
/-- what a router has when it heard something -/
def zHd (Q : Qt) (b now : Nat) (s s' : Rs) : Prop := (∀ r a, rB s' r = some a → rB s r = some a ∨ (r ≠ b ∧ Q r a.1 a.2.2 ∧ a.2.1 = now ∧ zEn a.2.2)) ∧ (rh s' = rh s ∨ ∃ L, Q b (rh s') L) ∧ (∀ e, e ∈ rT s' → e ∈ rT s ∨ 1 ≤ e.2.2) ∧ rB s' b = rB s b
theorem zHd_rf {Q : Qt} {b now : Nat} {s : Rs} {H : List Nb} : zHd Q b now s (H, s.2) := ⟨fun _ _ h => Or.inl h, Or.inl rfl, fun _ h => Or.inl h, rfl⟩
theorem rThk_hd {Q : Qt} {b now key of_ num : Nat} {s : Rs} : zHd Q b now s (rThk key of_ num s) := by
  unfold rThk
  split
  · exact zHd_rf
  · exact zHd_rf (H := s.1)
theorem rThx_in {s : Rs} {e x : Nat × Nat × Nat} (h : x ∈ rThx s e) : x ∈ rT s ∨ x = e := by
  unfold rThx at h
  by_cases c : (rT s).length < 64
  · rw [if_pos c] at h
    rcases List.mem_append.mp h with y | y
    · exact Or.inl y
    · exact Or.inr (List.mem_singleton.mp y)
  · rw [if_neg c] at h; exact Or.inl h
theorem rAdm_hd {Q : Qt} {b key of_ num now : Nat} {L : List En} {s : Rs} (hn1 : 1 ≤ num) (hL : zEn L) (hQ : Q of_ num L) : zHd Q b now s (rAdm b key of_ num L now s) := by
  unfold rAdm
  have tin : ∀ e, e ∈ rThx s (key, of_, num) → e ∈ rT s ∨ 1 ≤ e.2.2 := fun e he => (rThx_in he).imp id (fun y => by rw [y]; exact hn1)
  by_cases c : fn (rH s) key = false
  · rw [if_pos c]; exact zHd_rf (H := s.1)
  · rw [if_neg c]
    by_cases d : num ≤ bNum (rB s) of_ ∨ of_ = b
    · rw [if_pos d]
      refine ⟨fun _ _ h => Or.inl h, ?_, tin, rfl⟩
      show (if of_ = b then max (rh s) num else rh s) = rh s ∨ ∃ L, Q b (if of_ = b then max (rh s) num else rh s) L
      by_cases e : of_ = b
      · rw [if_pos e]
        by_cases m : num ≤ rh s
        · exact Or.inl (Nat.max_eq_left m)
        · refine Or.inr ⟨L, ?_⟩
          rw [Nat.max_eq_right (by omega), ← e]; exact hQ
      · rw [if_neg e]; exact Or.inl rfl
    · rw [if_neg d]
      refine ⟨fun r a h => ?_, Or.inl rfl, tin, if_neg (fun y => d (Or.inr y.symm))⟩
      have h : bSet (rB s) of_ (some (num, now, L)) r = some a := h
      unfold bSet at h
      by_cases e : r = of_
      · rw [if_pos e] at h
        have : (num, now, L) = a := Option.some.inj h
        subst this
        refine Or.inr ⟨fun y => d (Or.inr (e ▸ y)), by rw [e]; exact hQ, rfl, hL⟩
      · rw [if_neg e] at h; exact Or.inl h
theorem hAt_all (r : Nat) (but : Option Nat) (now key : Nat) : ∀ H : List Nb, hAt (hAll H r but now) key = (hAt H key).map (fun n => if some n.1 = but ∨ n.2.2.1 = false then n else (n.1, n.2.1, n.2.2.1, zupd n.2.2.2 r now)) := by
  intro H
  induction H with
  | nil => rfl
  | cons m H ih =>
    show hAt ((if some m.1 = but ∨ m.2.2.1 = false then m else (m.1, m.2.1, m.2.2.1, zupd m.2.2.2 r now)) :: hAll H r but now) key = _
    have e : (if some m.1 = but ∨ m.2.2.1 = false then m else (m.1, m.2.1, m.2.2.1, zupd m.2.2.2 r now)).1 = m.1 := by split <;> rfl
    rw [hAt_cons, hAt_cons, ih, e]
    by_cases c : m.1 = key
    · rw [if_pos c, if_pos c]; rfl
    · rw [if_neg c, if_neg c]
theorem fn_all (H : List Nb) (r : Nat) (but : Option Nat) (now key : Nat) : fn (hAll H r but now) key = fn H key := by
  unfold fn
  rw [hAt_all]
  cases hAt H key with
  | none => rfl
  | some n =>
    show (if some n.1 = but ∨ n.2.2.1 = false then n else (n.1, n.2.1, n.2.2.1, zupd n.2.2.2 r now)).2.2.1 = n.2.2.1
    split <;> rfl
theorem zp_hears {Q : Qt} {z w : St} {T : Tp} {E : Ev} {K : Int32 → Int32 → Int32 → Prop} {g : Sg} {X TS TB : List Nat} {q p x d N : Nat} {D Dc : Dg} {s : Rs} (hT : zTC z T) (hE : zgI z 11 4 0 = Int32.ofNat (eN E)) (hE4 : 1 ≤ eN E ∧ eN E ≤ 400000) (hq : tv T q) (hp : tv T p) (hpq : p / 8 = q / 8) (hr : tr T (tw T p) = true) (hrq : tr T (tw T q) = true) (hne : tw T p ≠ tw T q) (hx1 : zPC 10 z x Dc) (hf : df Dc = 0) (hl : dl Dc = dw D) (hD0 : Dc.1 0 = D.1 0) (hD2 : Dc.1 2 = D.1 2) (hDb : Dc.2 = D.2) (hs : D.1 0 = zad p) (hk : zRkD Q T p D) (hV : zMV w T E g K X TS (zTA w T) TB) (hd : d ∈ X) (hD : zMD w T K d D) (h9 : D.1 10 = Int32.ofNat (ti T q)) (hTT : TS.length + TB.length ≤ 4000) (hup : zgI w 18 5 q = 1) (hR : zRp z w T E (tw T q) s) (hS : zgI z 11 5 0 = Int32.ofNat (gS g)) (hN : 24 < N) :
    ∃ z' w' s' t, fX11_takeAsRouter N 0 q x z = some (0, z') ∧ fX19_handle_100 N 0 (tw T q) (Int32.ofNat d) (D.1 2) w = some (0, w') ∧ zRp z' w' T E (tw T q) s' ∧
      zMV w' T E (sS g t) K X TS (zTA w' T) TB ∧ zKm X w w' ∧ (t = gS g ∨ t = eN E) ∧
      (zgI z' 11 5 0 = Int32.ofNat t ∧ (∀ k j o, ¬ (k = 9 ∧ (j = 1 ∨ j = 5 ∨ j = 9 ∨ j = 10) ∧ o = tw T q) → ¬ (k = 0 ∧ (j = 6 ∨ j = 8 ∨ j = 9) ∧ o = tw T q) → ¬ (k = 11 ∧ j = 5) → zgI z' k j o = zgI z k j o) ∧ zKr (tw T q) (zsI z 11 5 0 (Int32.ofNat t)) z' ∧ (zgI z' 9 10 (tw T q) = zgI z 9 10 (tw T q) ∨ zgI z' 9 10 (tw T q) = 1) ∧ ((∀ key, fn (rH s') key = fn (rH s) key) ∨ zgI z' 9 10 (tw T q) = 1) ∧ ((zgI z' 0 9 (tw T q) = zgI z 0 9 (tw T q) ∧ rB s' = rB s) ∨ zgI z' 0 9 (tw T q) = 1)) ∧
      ((∀ k j o, ¬ (k = 12 ∧ (j = 13 ∨ j = 17 ∨ j = 22 ∨ j = 23 ∨ j = 24) ∧ o = tw T q) → ¬ (k = 15 ∧ 16 * tw T q ≤ o ∧ o < 16 * tw T q + 16) → ¬ (k = 19 ∧ (j = 11 ∨ j = 27)) → zgI w' k j o = zgI w k j o) ∧ (∀ k o i, ¬ (o = tw T q ∧ (k = 150 ∨ k = 151 ∨ k = 152 ∨ k = 153 ∨ k = 154)) → ¬ ((k = 162 ∨ k = 163) ∧ 16 * tw T q ≤ o ∧ o < 16 * tw T q + 16) → k ≠ 179 → k ≠ 180 → zgA w' k o i = zgA w k o i) ∧ zMr (tw T q) w w' ∧ (zgI w' 12 24 (tw T q) = zgI w 12 24 (tw T q) ∨ zgI w' 12 24 (tw T q) = 1) ∧ ((∀ key, fn (rH s') key = fn (rH s) key) ∨ zgI w' 12 24 (tw T q) = 1) ∧ ((zgI w' 12 23 (tw T q) = zgI w 12 23 (tw T q) ∧ rB s' = rB s) ∨ zgI w' 12 23 (tw T q) = 1)) ∧
      (rm s' = rm s ∧ ro s' = ro s ∧ zHd Q (tw T q) (eN E) s s') := by
  obtain ⟨D0, eD0⟩ : ∃ D0 : Dg, D0 = ((fun j => if j = 10 then zgI z 7 10 x else Dc.1 j, Dc.2) : Dg) := ⟨_, rfl⟩
  have fD : ∀ j, j ≠ 10 → D0.1 j = Dc.1 j := fun j hj => by rw [eD0]; exact if_neg hj
  have bD : D0.2 = D.2 := by rw [← hDb, eD0]
  have dfD : df D0 = df Dc := by unfold df; rw [fD 5 (by decide)]
  have dlD : dl D0 = dl Dc := by unfold dl; rw [fD 6 (by decide)]
  have hx : zPC 11 z x D0 := ⟨fun j hj h8 => by
    by_cases c : j = 10
    · rw [c, eD0]; rfl
    · rw [fD j c]; exact hx1.1 j (by omega) h8, fun i hi => by rw [bD, ← hDb, dfD]; rw [dlD] at hi; exact hx1.2 i hi⟩
  have hf' : df D0 = 0 := dfD.trans hf
  have hs' : D0.1 0 = zad p := (fD 0 (by decide)).trans (hD0.trans hs)
  have hc := hV.2.1
  obtain ⟨hb, hti, htq⟩ := hc.2.2.2.2.2.1 q hq
  obtain ⟨hpb, hpi, hpq2⟩ := hc.2.2.2.2.2.1 p hp
  have h16 := hc.1
  have ht6 := tp_le hc hb
  have h192 := tv_192 hc hp
  obtain ⟨hRc, hRm, hRw, hRo, h24⟩ := hR
  have hps : tpo T (tw T p) (tq T (tw T q) (ti T q) / 8) = some p := by
    rw [htq, tpo_of hc hpb hpi (by rw [hpq2]; exact hpq), hpq2]
  obtain ⟨⟨hd24, d0, -, -, -, -⟩, ⟨-, -, -, -, d9, d1480⟩, dY⟩ := hD
  have e9 : md w d 9 = Int32.ofNat (ti T q) := d9.trans h9
  have e0 : md w d 0 = zad p := d0.trans hs
  have hnow : zgI w 19 24 0 = Int32.ofNat (eN E) := hV.2.2.1.1
  have hb1 := (hV.1.2.1.2 _ hb).2.2.1
  rw [hrq] at hb1
  have o9 : fX19_of N 0 (Int32.ofNat d) (9 : Int32) w = some (Int32.ofNat (ti T q), w) := by
    have := zm_of (w := w) (N := N) (k := 9) hd24 (by omega); rw [e9] at this; exact this
  rcases hk with ⟨k2, k, hk16, g0, gk, hdw, hnames⟩ | ⟨k3, of_, num, L, ho, hn1, hn, hA, hL, hdw, hQ⟩ | ⟨k4, of_, num, ho, hn1, hn, a0, a1, hdw⟩
  · obtain ⟨-, -, dY2, -, -⟩ := dY
    obtain ⟨-, -, m12, k', k'16, gk', m13⟩ := dY2 k2
    have kk : k' = k := (zo_eq (by omega) (by omega)).mp (gk'.symm.trans gk)
    subst kk
    have hbit := gnm_bit (D := D) (b := tw T q) (by omega) hnames
    obtain ⟨z', c1, c2, c3, c4, c5, c6, c7, c8⟩ := zc_takeGreeting (N := N) (D := D0) hT hc hE hE4 hq hp hpq hr hrq hne hx hf' hs' k'16 (by rw [bD]; exact gk) (dlD.trans (hl.trans hdw)) hRc hRw (by omega)
    simp only [show ∀ b k, gNm D0 b k = gNm D b k from fun b k => by unfold gNm; rw [bD]] at c1 c2 c3 c4 c5 c6 c7 c8
    obtain ⟨mN, mT, mB, m16, m17, m18⟩ := hRm
    obtain ⟨w', r1, r2, r3, r4, r5, r6, r7, r8, r9⟩ := zm_greeted (N := N) (port := ti T q) (rt_ := tw T p) (nm := gNm D (tw T q) k') (names := gnm D.2 k') hV.1 hc hb hti (by omega) (by rw [htq]; exact hup) mN hRw.1.1 mB hnow hE4.1 h24 hbit (by omega)
    have o12 : fX19_of N 0 (Int32.ofNat d) (12 : Int32) w = some (Int32.ofNat (tw T p), w) := by
      have := zm_of (w := w) (N := N) (k := 12) hd24 (by omega); rw [m12, g0] at this; exact this
    have o13 : fX19_of N 0 (Int32.ofNat d) (13 : Int32) w = some (gnm D.2 k', w) := by
      have := zm_of (w := w) (N := N) (k := 13) hd24 (by omega); rw [m13] at this; exact this
    have run : fX19_handle_100 N 0 (tw T q) (Int32.ofNat d) (D.1 2) w = some (0, w') := by
      unfold fX19_handle_100
      rw [k2, if_neg (fun y => y rfl), hb1, if_neg (by decide), o9, zc_e, o12, zc_e, o13, zc_e, r1, zc_e]
    let t : Nat := if (hAt (rH s) (16 * ti T q + tw T p)).isSome = false ∧ (rH s).length = 16 then eN E else gS g
    have ht : ∀ v : Int32, v = Int32.ofNat (gS g) → (if (hAt (rH s) (16 * ti T q + tw T p)).isSome = false ∧ (rH s).length = 16 then Int32.ofNat (eN E) else v) = Int32.ofNat t := fun v hv => by
      show _ = Int32.ofNat (if (hAt (rH s) (16 * ti T q + tw T p)).isSome = false ∧ (rH s).length = 16 then eN E else gS g)
      by_cases c : (hAt (rH s) (16 * ti T q + tw T p)).isSome = false ∧ (rH s).length = 16
      · rw [if_pos c, if_pos c]
      · rw [if_neg c, if_neg c, hv]
    have hSm : zgI w 19 27 0 = Int32.ofNat (gS g) := hV.2.2.2.2.1.2.1.2.2
    have c4' : zgI z' 11 5 0 = Int32.ofNat t := c4.trans (ht _ hS)
    have r4' : zgI w' 19 27 0 = Int32.ofNat t := r4.trans (ht _ hSm)
    have fw : zFr mX19_greeted w w' := wX19_greeted (Nat.and_self _) (zFr_rf _ _) _ _ r1
    have TA1 : zTA w' T = zTA w T := zTA_cg (fun c k _ _ => r8 150 c k (by omega))
    have key96 : 16 * ti T q + tw T p < 96 := by omega
    have kok : zKok T (tw T q) (16 * ti T q + tw T p) := by
      have q1 : (16 * ti T q + tw T p) / 16 = ti T q := by omega
      have q2 : (16 * ti T q + tw T p) % 16 = tw T p := by omega
      unfold zKok
      rw [q1, q2]
      exact ⟨hti, hpb, hr, hne, p, hps⟩
    refine ⟨z', w', _, t, ?_, run, ⟨c2, ⟨r2, ?_, ?_, ?_, ?_, ?_⟩, zRw_gr hE4.1 hE4.2 kok key96 hRw, hRo, r5⟩, ?_, ?_, ?_, ⟨c4', fun k j o n1 _ n3 => c3 k j o (fun y => n1 ⟨y.1, by omega, y.2.2⟩) n3, by rw [← c4']; exact c8, c5, c6, Or.inl ⟨c3 0 9 _ (by omega) (by omega), rfl⟩⟩, ⟨fun k j o n1 n2 n3 => r3 k j o (fun y => n1 ⟨y.1, by omega, y.2.2⟩) n2 (fun y => n3 ⟨y.1, Or.inr y.2⟩), fun k o i _ n2 _ _ => r8 k o i n2, r9, r6, r7, Or.inl ⟨r3 12 23 _ (by omega) (by omega) (by omega), rfl⟩⟩, rfl, rfl, zHd_rf⟩
    · unfold fX11_takeAsRouter
      have kz : zgI z 7 2 x = 2 := ((hx1.1 2 (by omega) (by omega)).trans hD2).trans k2
      rw [kz, if_neg (fun y => y rfl), c1, zc_e]
    · exact zRmT_cg (r3 _ _ _ (by omega) (by omega) (by omega)) (fun k j hk => r8 k _ j (by omega)) mT
    · exact zRmB_cg (fun k j hk => r8 k _ j (by omega)) (fun y _ _ _ _ k _ => r8 178 0 _ (by omega)) mB
    · exact (r3 _ _ _ (by omega) (by omega) (by omega)).trans m16
    · exact (r3 _ _ _ (by omega) (by omega) (by omega)).trans m17
    · exact (r3 _ _ _ (by omega) (by omega) (by omega)).trans m18
    · rw [TA1]
      exact zMV_st fw (by decide) (fun k o i => r9.2.2.1 k o i) r4' hV
    · exact ⟨fun d k _ _ => r8 172 0 _ (by omega), fun k i => r8 174 k i (by omega), fun k i => r8 178 k i (by omega), fun k o i => r9.2.2.1 k o i⟩
    · show (if (hAt (rH s) (16 * ti T q + tw T p)).isSome = false ∧ (rH s).length = 16 then eN E else gS g) = gS g ∨ _ = eN E
      split
      · exact Or.inr (if_pos (by assumption))
      · exact Or.inl rfl
  · obtain ⟨-, -, -, dY3, -⟩ := dY
    obtain ⟨-, ⟨p', hp', s', m12⟩, a, ha, m11, hMA⟩ := dY3 k3
    have h192' := tv_192 hc hp'
    have pp : p' = p := zad_inj (by omega) (by omega) (s'.symm.trans hs)
    subst pp
    have hAd := zMA_Ad hMA hA hL (by have := hL.1; omega)
    obtain ⟨z', c1, c2, c3, c4, c5, c6⟩ := zc_takeAdvert (N := N) (D := D0) hT hc hE hE4 hq hp hpq hr hrq hne hx hf' hs' (dlD.trans (hl.trans hdw)) (by rw [bD]; exact hA) hL ho hn hRc hRw hN
    obtain ⟨w', r1, r2, r3, r4, r5, r6, r7, r8, r9⟩ := zm_advertCame (N := N) hV hd hd24 hTT hb hrq e0 e9 m12 m11 ha hAd hps (by omega) (by omega) ho hn hRm hRw hnow hE4.1 hE4.2 hN
    have c2' := rAdm_cl hRo c2
    have key : ∀ k, fn (rH (rAdm (tw T q) (16 * ti T q + tw T p') of_ num L (eN E) s)) k = fn (rH s) k := fun k => by
      have fdue : ∀ t k, fn (hDue (rH s) (16 * ti T q + tw T p') of_ t) k = fn (rH s) k := fun t k => fn_upd (by intro _; rfl) (by intro _; rfl) _ _
      unfold rAdm
      split
      · rfl
      · split
        · exact fdue _ k
        · show fn (hAll (hDue (rH s) (16 * ti T q + tw T p') of_ 0) of_ (some (16 * ti T q + tw T p')) (eN E)) k = _
          rw [← fdue 0 k]
          exact fn_all _ _ _ _ _
    have rBe : rB (rAdm (tw T q) (16 * ti T q + tw T p') of_ num L (eN E) s) = rB (rAdv (tw T q) (16 * ti T q + tw T p') of_ num L (eN E) s) := by
      obtain ⟨v, e, -⟩ := rAdm_eq (b := tw T q) (key := 16 * ti T q + tw T p') (of_ := of_) (num := num) (L := L) (now := eN E) hRo
      rw [e]; rfl
    have rme : rm (rAdm (tw T q) (16 * ti T q + tw T p') of_ num L (eN E) s) = rm s ∧ ro (rAdm (tw T q) (16 * ti T q + tw T p') of_ num L (eN E) s) = ro s := by
      unfold rAdm
      split
      · exact ⟨rfl, rfl⟩
      · split <;> exact ⟨rfl, rfl⟩
    let t : Nat := if fn (rH s) (16 * ti T q + tw T p') = true ∧ (rT s).length = 64 then eN E else gS g
    have c4' : zgI z' 11 5 0 = Int32.ofNat t := by
      rw [c4, hS]
      show _ = Int32.ofNat (if fn (rH s) (16 * ti T q + tw T p') = true ∧ (rT s).length = 64 then eN E else gS g)
      split <;> rfl
    refine ⟨z', w', _, t, ?_, ?_, ⟨c2', r4, zRw_adm hE4.2 ho hn1 hn hL hRw, rAdm_ro hRo, ?_⟩, ?_, r3, ?_, ⟨c4', fun k j o n1 n2 n3 => c3 k j o (fun y => n1 ⟨y.1, by omega, y.2.2⟩) n2 n3, by rw [← c4']; exact c6, Or.inl ?_, Or.inl key, by rw [rBe]; exact c5⟩, ⟨fun k j o n1 _ n3 => r5 k j o (fun y => n1 ⟨y.1, by omega, y.2.2⟩) n3, r8, r9, Or.inl ?_, Or.inl key, r7⟩, rme.1, rme.2, rAdm_hd hn1 hL hQ⟩
    · unfold fX11_takeAsRouter
      have kz : zgI z 7 2 x = 3 := ((hx1.1 2 (by omega) (by omega)).trans hD2).trans k3
      rw [kz, if_pos (by decide), if_neg (fun y => y rfl), c1, zc_e]
    · unfold fX19_handle_100 fX19_handle_141
      rw [k3, if_pos (by decide), if_neg (fun y => y rfl), hb1, if_neg (by decide), r1, zc_e]
    · rw [r5 12 24 _ (by omega) (by omega)]; exact h24
    · show zMV w' T E (sS g (if fn (rH s) (16 * ti T q + tw T p') = true ∧ (rT s).length = 64 then eN E else gS g)) K X TS (zTA w' T) TB
      by_cases c : fn (rH s) (16 * ti T q + tw T p') = true ∧ (rT s).length = 64
      · rw [if_pos c] at r2
        rw [if_pos c]; exact r2
      · rw [if_neg c] at r2
        rw [if_neg c]; exact r2
    · show (if fn (rH s) (16 * ti T q + tw T p') = true ∧ (rT s).length = 64 then eN E else gS g) = gS g ∨ _ = eN E
      split
      · exact Or.inr (if_pos (by assumption))
      · exact Or.inl rfl
    · exact c3 9 10 _ (by omega) (by omega) (by omega)
    · exact r5 12 24 _ (by omega) (by omega)
  · obtain ⟨-, -, -, -, dY4⟩ := dY
    obtain ⟨-, -, ⟨p', hp', s', m12⟩, m13⟩ := dY4 k4
    have h192' := tv_192 hc hp'
    have pp : p' = p := zad_inj (by omega) (by omega) (s'.symm.trans hs)
    subst pp
    rw [a0, a1] at m13
    obtain ⟨z', c1, c2, c3, c4⟩ := zc_takeThanking (N := N) (D := D0) hT hc hq hp hpq hr hrq hne hx hf' hs' (by rw [dlD]; omega) (by rw [bD]; exact a0) (by rw [bD]; exact a1) ho hn hRc hRw.1 hRw.2.2.2.1 hN
    obtain ⟨w', r1, r2, r3, r4⟩ := zm_thanking (N := N) hV hd24 hb hrq e9 m12 m13 (by omega) (by omega) ho hn1 hn hRm hRw hN
    have e5 : zgI z' 11 5 0 = Int32.ofNat (gS g) := (c3 11 5 0 (by omega)).trans hS
    have key : ∀ k, fn (rH (rThk (16 * ti T q + tw T p') of_ num s)) k = fn (rH s) k := fun k => by
      unfold rThk
      split
      · exact fn_upd (by intro _; rfl) (by intro _; rfl) _ _
      · rfl
    have rBe : rB (rThk (16 * ti T q + tw T p') of_ num s) = rB s ∧ rm (rThk (16 * ti T q + tw T p') of_ num s) = rm s ∧ ro (rThk (16 * ti T q + tw T p') of_ num s) = ro s := by
      unfold rThk
      split <;> exact ⟨rfl, rfl, rfl⟩
    refine ⟨z', w', _, gS g, ?_, ?_, ⟨c2, r3, zRw_thk hE4.2 hRw, rThk_ro hRo, ?_⟩, r2, zKm_mh r4, Or.inl rfl, ⟨e5, fun k j o n1 _ _ => c3 k j o (fun y => n1 ⟨y.1, by omega, y.2.2⟩), by rw [← hS, zsI_id]; exact c4, Or.inl (c3 9 10 _ (by omega)), Or.inl key, Or.inl ⟨c3 0 9 _ (by omega), rBe.1⟩⟩, ⟨fun k j o _ _ _ => r4.1 k j o, fun k o i _ n2 _ _ => r4.2.1 k o i n2, zMh_mr r4, Or.inl (r4.1 _ _ _), Or.inl key, Or.inl ⟨r4.1 _ _ _, rBe.1⟩⟩, rBe.2.1, rBe.2.2, rThk_hd⟩
    · unfold fX11_takeAsRouter
      have kz : zgI z 7 2 x = 4 := ((hx1.1 2 (by omega) (by omega)).trans hD2).trans k4
      rw [kz, if_pos (by decide), if_pos (by decide), if_neg (fun y => y rfl), c1, zc_e]
    · unfold fX19_handle_100 fX19_handle_141
      rw [k4, if_pos (by decide), if_pos (by decide)]
      exact r1
    · rw [r4.1]; exact h24
