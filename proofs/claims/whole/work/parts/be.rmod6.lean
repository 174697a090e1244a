/-! routers, the model: an advert comes (behind the thanks) -/
theorem zRmB_mh {b : Nat} {w w' : St} {Ba : Nat → Option Ad} (f : zMh b w w') (h : zRmB w b Ba) : zRmB w' b Ba := zRmB_cg (fun k i hk => f.2.1 k b i (by omega)) (fun x r _ _ _ k _ => f.2.1 178 0 _ (by omega)) h
theorem zRmT_mh {b : Nat} {w w' : St} {T : Tp} {L : List (Nat × Nat × Nat)} (f : zMh b w w') (h : zRmT w T b L) : zRmT w' T b L := zRmT_cg (f.1 _ _ _) (fun k i hk => f.2.1 k b i (by omega)) h
theorem zKm_mh {b : Nat} {w w' : St} {X : List Nat} (f : zMh b w w') : zKm X w w' := ⟨fun d k _ _ => f.2.1 172 0 _ (by omega), fun k i => f.2.1 174 k i (by omega), fun k i => f.2.1 178 k i (by omega), fun k o i => f.2.2.1 k o i⟩
theorem zm_adv125 {w : St} {T : Tp} {E : Ev} {K : Int32 → Int32 → Int32 → Prop} {g : Sg} {X TS TB : List Nat} {b key d a of_ num i now N : Nat} {L : List En} {H : List Nb} {n : Nb} {ids : Nat → Nat} {Ba : Nat → Option Ad} {r : Nat} (h : zMV w T E g K X TS (zTA w T) TB) (hd : d ∈ X) (h11 : md w d 11 = Int32.ofNat a) (hTT : TS.length + TB.length ≤ 4000) (hb : b < tb T) (hrt : tr T b = true) (ha : a < 2400) (hA : zAdw w a of_ num L) (ho : of_ < 16) (hn : num ≤ 16000000) (hM : zRmI w b H ids) (hH : zHk H) (hi : H[i]? = some n) (hkey : n.1 = key) (hB : zRmB w b Ba) (hbn : bNum Ba of_ ≤ 16000000) (h0 : zgI w 12 0 b = Int32.ofNat b) (h17 : zgI w 12 17 b = Int32.ofNat r) (hr : r ≤ 16000000) (hnow : zgI w 19 24 0 = Int32.ofNat now) (hn1 : 1 ≤ now) (hn2 : now ≤ 400000) (hN : 24 < N) :
    ∃ w', fX19_advertCame_125 N 0 b (ids i) (Int32.ofNat a) (Int32.ofNat of_) (Int32.ofNat num) w = some (0, w') ∧ zMV w' T E g K X TS (zTA w' T) TB ∧ zKm X w w' ∧
      (if num ≤ bNum Ba of_ ∨ of_ = b then zRmI w' b (hDue H key of_ (if num < bNum Ba of_ then now else 0)) ids ∧ zRmB w' b Ba ∧ zgI w' 12 17 b = Int32.ofNat (if of_ = b then max r num else r) ∧ zgI w' 12 23 b = zgI w 12 23 b
        else zRmI w' b (hAll (hDue H key of_ 0) of_ (some key) now) ids ∧ zRmB w' b (bSet Ba of_ (some (num, now, L))) ∧ zgI w' 12 17 b = Int32.ofNat r ∧ zgI w' 12 23 b = 1) ∧
      (∀ k j o, ¬ (k = 12 ∧ (j = 17 ∨ j = 23) ∧ o = b) → ¬ (k = 19 ∧ j = 11) → zgI w' k j o = zgI w k j o) ∧ (∀ k o i, ¬ (o = b ∧ (k = 150 ∨ k = 151)) → ¬ ((k = 162 ∨ k = 163) ∧ 16 * b ≤ o ∧ o < 16 * b + 16) → k ≠ 179 → k ≠ 180 → zgA w' k o i = zgA w k o i) ∧ zMr b w w' := by
  have hc := h.2.1
  have h16 := hc.1
  have hil := (List.getElem?_eq_some_iff.mp hi).1
  have hl16 := hH.2.2
  subst hkey
  obtain ⟨x1, x2, -⟩ := hM.1.2.1 i (by omega)
  let s0 : Nat := bNum Ba of_
  have hs0 : bNum Ba of_ = s0 := rfl
  -- the number that is known
  have run1 : fX19_advertCame_125 N 0 b (ids i) (Int32.ofNat a) (Int32.ofNat of_) (Int32.ofNat num) w = fX19_advertCame_152 N 0 b (ids i) (Int32.ofNat a) (Int32.ofNat of_) (Int32.ofNat num) (Int32.ofNat s0) w := by
    unfold fX19_advertCame_125
    rw [zkk ho (by omega), zoC (by omega)]
    rcases bNum_m hB ho with ⟨c1, c2⟩ | ⟨x, c1, c2, c3⟩
    · rw [if_neg (fun y => y c1)]
      show _ = fX19_advertCame_152 N 0 b (ids i) (Int32.ofNat a) (Int32.ofNat of_) (Int32.ofNat num) (Int32.ofNat (bNum Ba of_)) w
      rw [c2]; rfl
    · have e : fX19_ad N 0 (Int32.ofNat x) (1 : Int32) w = some (Int32.ofNat (bNum Ba of_), w) := by
        have := zm_ad (w := w) (N := N) (k := 1) c1 (by omega); rw [c3] at this; exact this
      rw [if_pos (by rw [c2]; exact zo_ne1 (by omega)), zkk ho (by omega), c2, e, zc_e]
  -- what is due
  obtain ⟨w2, run2, M2, f2⟩ : ∃ w2, fX19_advertCame_152 N 0 b (ids i) (Int32.ofNat a) (Int32.ofNat of_) (Int32.ofNat num) (Int32.ofNat s0) w = fX19_advertCame_179 N 0 b (ids i) (Int32.ofNat a) (Int32.ofNat of_) (Int32.ofNat num) (Int32.ofNat s0) w2 ∧ zRmI w2 b (hDue H n.1 of_ (if num < s0 then now else 0)) ids ∧ zMh b w w2 := by
    unfold fX19_advertCame_152
    by_cases c : num < s0
    · obtain ⟨w2, r1, r2, r3⟩ := zm_isDue (N := N) hM hH.2.1 hi ho hnow hn1
      refine ⟨w2, ?_, by rw [if_pos c]; exact r2, r3⟩
      rw [if_pos (by rw [zo_lt (by omega) (by omega)]; exact c), r1, zc_e]
    · obtain ⟨r2, r3⟩ := zm_noDue (r := of_) hM hH.2.1 hi
      refine ⟨_, ?_, by rw [if_neg c]; exact r2, r3⟩
      have vp : vp_nar .boolean (0 : Int32) = 0 := by decide
      rw [if_neg (by rw [zo_lt (by omega) (by omega)]; exact c), zkk ho (by omega), zoC (by omega), vp, zl_e]
  have V2 : zMV w2 T E g K X TS (zTA w T) TB := zMV_mh f2 h
  have B2 := zRmB_mh f2 hB
  have TA2 : zTA w2 T = zTA w T := zTA_cg (fun c k _ _ => f2.2.1 150 c k (by omega))
  have w0 : zgI w2 12 0 b = Int32.ofNat b := (f2.1 _ _ _).trans h0
  have w17 : zgI w2 12 17 b = Int32.ofNat r := (f2.1 _ _ _).trans h17
  by_cases c : num ≤ s0 ∨ of_ = b
  · have run3 : fX19_advertCame_179 N 0 b (ids i) (Int32.ofNat a) (Int32.ofNat of_) (Int32.ofNat num) (Int32.ofNat s0) w2 = fX19_advertCame_217 N b (Int32.ofNat of_) (Int32.ofNat num) w2 := by
      unfold fX19_advertCame_179
      by_cases c1 : num ≤ s0
      · rw [if_pos (by rw [zo_le (by omega) (by omega)]; exact c1)]
      · rw [if_neg (by rw [zo_le (by omega) (by omega)]; exact c1), w0, if_pos (by rw [zo_eq (by omega) (by omega)]; omega)]
    have run4 := zm_adv217 (N := N) w0 w17 (by omega) ho hn hr
    have I3 : ∀ k j o, ¬ (k = 12 ∧ (j = 17 ∨ j = 23) ∧ o = b) → ¬ (k = 19 ∧ j = 11) → zgI (zsI w2 12 17 b (Int32.ofNat (if of_ = b then max r num else r))) k j o = zgI w k j o := fun k j o n1 _ => by
      rw [zgI_sI, if_neg (fun y => n1 ⟨y.1, Or.inl y.2.1, y.2.2⟩)]; exact f2.1 _ _ _
    have TA3 : zTA (zsI w2 12 17 b (Int32.ofNat (if of_ = b then max r num else r))) T = zTA w T := TA2
    refine ⟨_, run1.trans (run2.trans (run3.trans run4)), ?_, ?_, ?_, I3, fun k o j _ n2 _ _ => f2.2.1 k o j n2, zMr_tr (zMh_mr f2) (zMr_I (Or.inl ⟨rfl, rfl, by omega⟩))⟩
    · rw [TA3]
      exact zMV_fr (M := 0x20000000000000000000000000000000000000000000000000000000000000000000000000000000000000000000000000000000000000000000000000000000000000000000000000000000000000000000000000000000000000000000000000000) (zFr_I (zFr_rf _ _) (by decide)) (by decide) (fun _ _ _ => rfl) V2
    · exact zKm_tr (zKm_mh f2) ⟨fun _ _ _ _ => rfl, fun _ _ => rfl, fun _ _ => rfl, fun _ _ _ => rfl⟩
    · rw [hs0, if_pos c]
      refine ⟨?_, ?_, by rw [zgI_sI, if_pos ⟨rfl, rfl, rfl⟩], by rw [zgI_sI, if_neg (by omega)]; exact f2.1 _ _ _⟩
      · exact zRmI_cg (by rw [zgI_sI, if_neg (by omega)]) (fun _ => rfl) (fun x _ _ => ⟨fun j _ => by rw [zgI_sI, if_neg (by omega)], fun _ _ _ => rfl⟩) M2
      · exact zRmB_cg (fun _ _ _ => rfl) (fun _ _ _ _ _ _ _ => rfl) B2
  · have c1 : ¬ num ≤ s0 := fun y => c (Or.inl y)
    have c2 : ¬ of_ = b := fun y => c (Or.inr y)
    rw [if_neg (show ¬ num < s0 by omega)] at M2
    have hlen := zTA_len w T
    obtain ⟨V3, k3⟩ := zm_holdTA (a := a) V2 hd ((f2.2.1 172 0 _ (by omega)).trans h11) ha (by omega)
    let w3 : St := zsA w2 179 0 a (zgA w2 179 0 a + 1)
    have A3 : ∀ k o j, k ≠ 179 → zgA w3 k o j = zgA w2 k o j := fun k o j n1 => by
      show zgA (zsA w2 179 0 a (zgA w2 179 0 a + 1)) k o j = _
      rw [zgA_sA, if_neg (fun y => n1 y.1)]
    have TA3 : zTA w3 T = zTA w T := (zTA_cg (fun c k _ _ => A3 150 c k (by omega))).trans TA2
    have V3' : zMV w3 T E g K X TS (a :: zTA w3 T) TB := by rw [TA3]; exact V3
    have hmad : ∀ x k, mad w3 x k = mad w x k := fun x k => (A3 178 0 _ (by omega)).trans (f2.2.1 178 0 _ (by omega))
    have M3 : zRmI w3 b (hDue H n.1 of_ 0) ids := zRmI_cg (w := w2) rfl (fun _ => rfl) (fun x _ _ => ⟨fun _ _ => rfl, fun k j hk => A3 k x j (by omega)⟩) M2
    have B3 : zRmB w3 b Ba := zRmB_cg (w := w2) (fun k j hk => A3 k b j (by omega)) (fun x _ _ _ _ k _ => A3 178 0 _ (by omega)) B2
    have A3' : zAdw w3 a of_ num L := zAdw_cg (fun k _ => hmad a k) hA
    have hbut : ∀ j m, (hDue H n.1 of_ 0)[j]? = some m → (some (ids j) = some (ids i) ↔ some m.1 = some n.1) := fun j m hm => by
      obtain ⟨m0, hm0, e⟩ := hUpd_at (by intro _; rfl) hm
      have hjl := (List.getElem?_eq_some_iff.mp hm0).1
      constructor
      · intro y
        have := hM.1.2.2 j i (by omega) (by omega) (Option.some.inj y)
        rw [this, hi] at hm0
        rw [e, ← Option.some.inj hm0]
      · intro y
        by_cases q : j = i
        · rw [q]
        · exact absurd ((e.symm.trans (Option.some.inj y))) (zkeys_ne hH.2.1 hi hm0 q)
    obtain ⟨w', r1, r2, r3, r4, r5, r6, r7, r8, r9⟩ := zm_take (N := N) V3' hb hrt ha A3' ho M3 (zHk_due (by omega) hH) B3 ((f2.1 _ _ _).trans hnow) hn1 hbut hN
    have run3 : fX19_advertCame_179 N 0 b (ids i) (Int32.ofNat a) (Int32.ofNat of_) (Int32.ofNat num) (Int32.ofNat s0) w2 = some (0, w') := by
      unfold fX19_advertCame_179
      rw [if_neg (by rw [zo_le (by omega) (by omega)]; exact c1), w0, if_neg (by rw [zo_eq (by omega) (by omega)]; exact c2), zkk ha (by omega), zkk ha (by omega), zoC (by omega), zl_e]
      show zc (fX19_take N 0 b (Int32.ofNat a) (some (ids i)) w3) _ = _
      rw [r1, zc_e]
    refine ⟨w', run1.trans (run2.trans run3), r2, zKm_tr (zKm_mh f2) (zKm_tr k3 r3), ?_, fun k j o n1 n2 => (r7 k j o (fun y => n1 ⟨y.1, Or.inr y.2.1, y.2.2⟩) n2).trans (f2.1 _ _ _), fun k o j n1 n2 n3 n4 => (r8 k o j (fun y => n1 ⟨y.1, y.2.1⟩) n2 n3 n4).trans ((A3 k o j n3).trans (f2.2.1 k o j n2)), zMr_tr (zMh_mr f2) (zMr_tr (zMr_A (Or.inr (Or.inr (by omega)))) r9)⟩
    rw [hs0, if_neg c]
    exact ⟨r4, r5, (r7 12 17 b (by omega) (by omega)).trans ((f2.1 _ _ _).trans h17), r6⟩
