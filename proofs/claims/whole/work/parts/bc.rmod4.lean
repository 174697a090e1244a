/-! routers, the model: an advert is taken into the base -/
theorem zm_ad {w : St} {a k N : Nat} (ha : a < 2400) (hk : k < 76) : fX19_ad N 0 (Int32.ofNat a) (Int32.ofNat k) w = some (mad w a k, w) := by
  unfold fX19_ad mad
  rw [show ((76 : Int32) * Int32.ofNat a) + Int32.ofNat k = Int32.ofNat (76 * a + k) from by rw [show (76 : Int32) * Int32.ofNat a = Int32.ofNat (76 * a) from (Int32.ofNat_mul 76 a).symm, zo_add], zkk (by omega) (by omega), zoC (by omega)]
theorem zRmB_at {w : St} {b r : Nat} {Ba : Nat → Option Ad} (h : zRmB w b Ba) (hr : r < 16) : zgA w 150 b r = -1 ∨ ∃ x, x < 2400 ∧ zgA w 150 b r = Int32.ofNat x := by
  have := h r hr
  cases e : Ba r with
  | none => rw [e] at this; exact Or.inl this
  | some a =>
    rw [e] at this
    obtain ⟨x, x1, x2, -⟩ := this
    exact Or.inr ⟨x, x1, x2⟩
theorem zMr_dropAdvert (b : Nat) {w w' : St} {a N : Nat} (h : fX19_dropAdvert N 0 (Int32.ofNat a) w = some (0, w')) : zMr b w w' := by
  unfold fX19_dropAdvert zk at h
  simp only [zl_e] at h
  repeat' split at h
  all_goals cases h
  all_goals first
    | exact zMr_A (Or.inr (Or.inr (by omega)))
    | exact zMr_tr (zMr_A (Or.inr (Or.inr (by omega)))) (zMr_tr (zMr_A (Or.inr (Or.inr (by omega)))) (zMr_I (Or.inr (Or.inr ⟨rfl, Or.inl rfl⟩))))
/-- behind the old advert: the new one's place is put -/
theorem zm_take30 {w : St} {T : Tp} {E : Ev} {K : Int32 → Int32 → Int32 → Prop} {g : Sg} {X TS TA TB : List Nat} {b a r num now N : Nat} {L : List En} {H : List Nb} {ids : Nat → Nat} {Ba : Nat → Option Ad} {but fr : Option Nat} (h : zMV w T E g K X TS TA TB) (ha : a < 2400) (hA : zAdw w a r num L) (hr : r < 16) (hM : zRmI w b H ids) (hH : zHk H) (hB : ∀ k, k < 16 → k ≠ r → (match Ba k with
    | none => zgA w 150 b k = -1
    | some a => ∃ x, x < 2400 ∧ zgA w 150 b k = Int32.ofNat x ∧ zgA w 151 b k = Int32.ofNat a.2.1 ∧ zAdw w x k a.1 a.2.2)) (hnow : zgI w 19 24 0 = Int32.ofNat now) (hn1 : 1 ≤ now) (hbut : ∀ j n, H[j]? = some n → (some (ids j) = fr ↔ some n.1 = but)) (hN : 24 < N) :
    ∃ w', fX19_take_30 N 0 b (Int32.ofNat a) fr (Int32.ofNat r) w = some (0, w') ∧ zMV w' T E g K X TS TA TB ∧ zRmI w' b (hAll H r but now) ids ∧ zRmB w' b (bSet Ba r (some (num, now, L))) ∧ zgI w' 12 23 b = 1 ∧ (∀ k j o, ¬ (k = 12 ∧ j = 23 ∧ o = b) → zgI w' k j o = zgI w k j o) ∧ (∀ k o i, ¬ (o = b ∧ (k = 150 ∨ k = 151) ∧ i = r) → ¬ ((k = 162 ∨ k = 163) ∧ 16 * b ≤ o ∧ o < 16 * b + 16) → zgA w' k o i = zgA w k o i) ∧ zgA w' 150 b r = Int32.ofNat a ∧ zMr b w w' ∧ (∀ k o i, zgL w' k o i = zgL w k o i) := by
  let w1 : St := zsI (zsA (zsA w 150 b r (Int32.ofNat a)) 151 b r (Int32.ofNat now)) 12 23 b 1
  have I1 : ∀ k j o, zgI w1 k j o = if k = 12 ∧ j = 23 ∧ o = b then 1 else zgI w k j o := fun k j o => by
    show zgI (zsI (zsA (zsA w 150 b r _) 151 b r _) 12 23 b 1) k j o = _
    rw [zgI_sI]; rfl
  have A1 : ∀ k o i, zgA w1 k o i = if k = 151 ∧ o = b ∧ i = r then Int32.ofNat now else if k = 150 ∧ o = b ∧ i = r then Int32.ofNat a else zgA w k o i := fun k o i => by
    show zgA (zsA (zsA w 150 b r _) 151 b r _) k o i = _
    rw [zgA_sA, zgA_sA]
  have K1 : zMr b w w1 := zMr_tr (zMr_A (Or.inl ⟨rfl, Or.inl rfl⟩)) (zMr_tr (zMr_A (Or.inl ⟨rfl, Or.inr (Or.inl rfl)⟩)) (zMr_I (Or.inl ⟨rfl, rfl, by omega⟩)))
  have M1 : zRmI w1 b H ids := by
    refine zRmI_cg (w := w) ?_ (fun _ => rfl) (fun x _ _ => ⟨fun j _ => ?_, fun k i hk => ?_⟩) hM
    · rw [I1, if_neg (by omega)]
    · rw [I1, if_neg (by omega)]
    · rw [A1, if_neg (by omega), if_neg (by omega)]
  have n1 : zgI w1 19 24 0 = Int32.ofNat now := by rw [I1, if_neg (by omega)]; exact hnow
  obtain ⟨w', r1, r2, r3⟩ := zm_dueAll (N := N) M1 hH hr n1 hn1 hbut H [] N w1 rfl (by have := hH.2.2; omega) M1 (zMh_rf _ _)
  have run : fX19_take_30 N 0 b (Int32.ofNat a) fr (Int32.ofNat r) w = some (0, w') := by
    unfold fX19_take_30
    have q : zgI (zsA w 150 b r (Int32.ofNat a)) 19 24 0 = Int32.ofNat now := hnow
    rw [zkk hr (by omega), zoC (by omega), zl_e, zkk hr (by omega), q, zl_e, zl_e]
    exact r1
  have fw : zFr mX19_take_30 w w' := wX19_take_30 (Nat.and_self _) (zFr_rf _ _) _ _ run
  have hA' : ∀ k o i, ¬ (o = b ∧ (k = 150 ∨ k = 151) ∧ i = r) → ¬ ((k = 162 ∨ k = 163) ∧ 16 * b ≤ o ∧ o < 16 * b + 16) → zgA w' k o i = zgA w k o i := fun k o i n1 n2 => by
    rw [r3.2.1 k o i n2, A1, if_neg (fun y => n1 ⟨y.2.1, Or.inr y.1, y.2.2⟩), if_neg (fun y => n1 ⟨y.2.1, Or.inl y.1, y.2.2⟩)]
  have hmad : ∀ x k, mad w' x k = mad w x k := fun x k => hA' 178 0 _ (by omega) (by omega)
  have h150 : zgA w' 150 b r = Int32.ofNat a := by
    rw [r3.2.1 _ _ _ (by omega), A1, if_neg (by omega), if_pos ⟨rfl, rfl, rfl⟩]
  refine ⟨w', run, zMV_fr fw (by decide) (fun k o i => r3.2.2.1 k o i) h, r2, fun k hk => ?_, ?_, fun k j o n => ?_, hA', h150, zMr_tr K1 (zMh_mr r3), fun k o i => r3.2.2.1 k o i⟩
  · unfold bSet
    by_cases c : k = r
    · rw [if_pos c, c]
      refine ⟨a, ha, h150, ?_, zAdw_cg (fun k _ => hmad a k) hA⟩
      rw [r3.2.1 _ _ _ (by omega), A1, if_pos ⟨rfl, rfl, rfl⟩]
    · rw [if_neg c]
      have := hB k hk c
      have e0 : zgA w' 150 b k = zgA w 150 b k := hA' _ _ _ (fun y => c y.2.2) (by omega)
      have e1 : zgA w' 151 b k = zgA w 151 b k := hA' _ _ _ (fun y => c y.2.2) (by omega)
      cases e : Ba k with
      | none => rw [e] at this; exact e0.trans this
      | some m =>
        rw [e] at this
        obtain ⟨x, x1, x2, x3, x4⟩ := this
        exact ⟨x, x1, e0.trans x2, e1.trans x3, zAdw_cg (fun k _ => hmad x k) x4⟩
  · rw [r3.1, I1, if_pos ⟨rfl, rfl, rfl⟩]
  · rw [r3.1, I1, if_neg n]
/-- an advert that is held once beside the bases goes into router b's -/
theorem zm_take {w : St} {T : Tp} {E : Ev} {K : Int32 → Int32 → Int32 → Prop} {g : Sg} {X TS TB : List Nat} {b a r num now N : Nat} {L : List En} {H : List Nb} {ids : Nat → Nat} {Ba : Nat → Option Ad} {but fr : Option Nat} (h : zMV w T E g K X TS (a :: zTA w T) TB) (hb : b < tb T) (hrt : tr T b = true) (ha : a < 2400) (hA : zAdw w a r num L) (hr : r < 16) (hM : zRmI w b H ids) (hH : zHk H) (hB : zRmB w b Ba) (hnow : zgI w 19 24 0 = Int32.ofNat now) (hn1 : 1 ≤ now) (hbut : ∀ j n, H[j]? = some n → (some (ids j) = fr ↔ some n.1 = but)) (hN : 24 < N) :
    ∃ w', fX19_take N 0 b (Int32.ofNat a) fr w = some (0, w') ∧ zMV w' T E g K X TS (zTA w' T) TB ∧ zKm X w w' ∧ zRmI w' b (hAll H r but now) ids ∧ zRmB w' b (bSet Ba r (some (num, now, L))) ∧ zgI w' 12 23 b = 1 ∧ (∀ k j o, ¬ (k = 12 ∧ j = 23 ∧ o = b) → ¬ (k = 19 ∧ j = 11) → zgI w' k j o = zgI w k j o) ∧ (∀ k o i, ¬ (o = b ∧ (k = 150 ∨ k = 151) ∧ i = r) → ¬ ((k = 162 ∨ k = 163) ∧ 16 * b ≤ o ∧ o < 16 * b + 16) → k ≠ 179 → k ≠ 180 → zgA w' k o i = zgA w k o i) ∧ zMr b w w' := by
  have hc := h.2.1
  have start : fX19_take N 0 b (Int32.ofNat a) fr w = if zgA w 150 b r = -1 then fX19_take_30 N 0 b (Int32.ofNat a) fr (Int32.ofNat r) w else zc (fX19_dropAdvert N 0 (zgA w 150 b r) w) fun _ z9 => fX19_take_30 N 0 b (Int32.ofNat a) fr (Int32.ofNat r) z9 := by
    unfold fX19_take
    have e0 : fX19_ad N 0 (Int32.ofNat a) (0 : Int32) w = some (Int32.ofNat r, w) := by
      have := zm_ad (w := w) (N := N) (k := 0) ha (by omega)
      rw [hA.1.1] at this; exact this
    rw [e0, zc_e, zkk hr (by omega), zoC (by omega)]
    by_cases c : zgA w 150 b r = -1
    · rw [if_pos c, if_pos c]
    · rw [if_neg c, if_neg c, zkk hr (by omega)]
  have hB' : ∀ {w1 : St}, (∀ k o i, k ≠ 179 → k ≠ 180 → zgA w1 k o i = zgA w k o i) → ∀ k, k < 16 → k ≠ r → (match Ba k with
    | none => zgA w1 150 b k = -1
    | some a => ∃ x, x < 2400 ∧ zgA w1 150 b k = Int32.ofNat x ∧ zgA w1 151 b k = Int32.ofNat a.2.1 ∧ zAdw w1 x k a.1 a.2.2) := fun {w1} f k hk _ => by
    have := hB k hk
    have e0 : zgA w1 150 b k = zgA w 150 b k := f _ _ _ (by omega) (by omega)
    have e1 : zgA w1 151 b k = zgA w 151 b k := f _ _ _ (by omega) (by omega)
    cases e : Ba k with
    | none => rw [e] at this; exact e0.trans this
    | some m =>
      rw [e] at this
      obtain ⟨x, x1, x2, x3, x4⟩ := this
      exact ⟨x, x1, e0.trans x2, e1.trans x3, zAdw_cg (fun k _ => f 178 0 _ (by omega) (by omega)) x4⟩
  have hne : ∀ {w1 w' : St}, (∀ k o i, k ≠ 179 → k ≠ 180 → zgA w1 k o i = zgA w k o i) → (∀ k o i, ¬ (o = b ∧ (k = 150 ∨ k = 151) ∧ i = r) → ¬ ((k = 162 ∨ k = 163) ∧ 16 * b ≤ o ∧ o < 16 * b + 16) → zgA w' k o i = zgA w1 k o i) → ∀ c i, ¬ (c = b ∧ i = r) → zgA w' 150 c i = zgA w 150 c i := fun {w1 w'} f1 f2 c i n => (f2 150 c i (fun y => n ⟨y.1, y.2.2⟩) (by omega)).trans (f1 150 c i (by omega) (by omega))
  rcases zRmB_at hB hr with c | ⟨x, hx, c⟩
  · obtain ⟨w', r1, r2, r3, r4, r5, r6, r7, r8, r9, r10⟩ := zm_take30 (but := but) (N := N) h ha hA hr hM hH (hB' (fun _ _ _ _ _ => rfl)) hnow hn1 hbut hN
    have p := zTA_ins (w := w) (w' := w') hc hb hrt hr ha c r8 (hne (fun _ _ _ _ _ => rfl) r7)
    refine ⟨w', by rw [start, if_pos c, r1], zMV_permTA p.symm r2, ?_, r3, r4, r5, fun k j o n _ => r6 k j o n, fun k o i n1 n2 _ _ => r7 k o i n1 n2, r9⟩
    exact ⟨fun d k _ _ => r7 172 0 _ (by omega) (by omega), fun k i => r7 174 k i (by omega) (by omega), fun k i => r7 178 k i (by omega) (by omega), fun k o i => r10 k o i⟩
  · let w0 : St := zsA w 150 b r (-1)
    have p0 : (zTA w T).Perm (x :: zTA w0 T) := zTA_ins (w := w0) (w' := w) hc hb hrt hr hx (by show zgA (zsA w 150 b r (-1)) 150 b r = -1; rw [zgA_sA, if_pos ⟨rfl, rfl, rfl⟩]) c (fun o i n => by
      show zgA w 150 o i = zgA (zsA w 150 b r (-1)) 150 o i
      rw [zgA_sA, if_neg (fun y => n ⟨y.2.1, y.2.2⟩)])
    have h0 : zMV w T E g K X TS (x :: a :: zTA w0 T) TB := zMV_permTA ((p0.cons a).trans (List.Perm.swap x a _)) h
    obtain ⟨w1, s1, s2, s3, s4, s5, s6, s7⟩ := zm_dropTA (N := N) h0
    have hM1 : zRmI w1 b H ids := by
      exact zRmI_cg (s5 _ _ _ (by omega)) (fun i => zFr_gQ s7 (by decide) b i) (fun y _ _ => ⟨fun j _ => s5 _ _ _ (by omega), fun k i hk => s4 _ _ _ (by omega) (by omega)⟩) hM
    obtain ⟨w', r1, r2, r3, r4, r5, r6, r7, r8, r9, r10⟩ := zm_take30 (but := but) (N := N) s2 ha (zAdw_cg (fun k _ => s4 178 0 _ (by omega) (by omega)) hA) hr hM1 hH (hB' s4) ((s5 _ _ _ (by omega)).trans hnow) hn1 hbut hN
    have e0 : ∀ c i, ¬ (c = b ∧ i = r) → zgA w' 150 c i = zgA w0 150 c i := fun c i n => by
      rw [hne s4 r7 c i n]
      show zgA w 150 c i = zgA (zsA w 150 b r (-1)) 150 c i
      rw [zgA_sA, if_neg (fun y => n ⟨y.2.1, y.2.2⟩)]
    have p := zTA_ins (w := w0) (w' := w') hc hb hrt hr ha (by show zgA (zsA w 150 b r (-1)) 150 b r = -1; rw [zgA_sA, if_pos ⟨rfl, rfl, rfl⟩]) r8 e0
    have hxn : ¬ zgA w 150 b r = -1 := by rw [c]; exact zo_ne1 (by omega)
    refine ⟨w', by rw [start, if_neg hxn, c, s1, zc_e, r1], zMV_permTA p.symm r2, ?_, r3, r4, r5, fun k j o n n2 => (r6 k j o n).trans (s5 k j o n2), fun k o i n1 n2 n3 n4 => (r7 k o i n1 n2).trans (s4 k o i n3 n4), zMr_tr (zMr_dropAdvert b s1) r9⟩
    exact ⟨fun d k a1 a2 => (r7 172 0 _ (by omega) (by omega)).trans (s4 172 0 _ (by omega) (by omega)), fun k i => (r7 174 k i (by omega) (by omega)).trans (s4 174 k i (by omega) (by omega)), fun k i => (r7 178 k i (by omega) (by omega)).trans (s4 178 k i (by omega) (by omega)), fun k o i => (r10 k o i).trans (s6 k o i)⟩
