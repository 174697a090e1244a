/-! routers, the model: an advert comes -/
theorem zMh_fr {b : Nat} {w w' : St} (h : zMh b w w') : zFr 0xc00000000000000000000000000000000000000000000000000000000000000000000000000000000000000000000000000000000000000000000000000000000000000000000000000000000000000000000000000000000000000000000000000000000000000000000000000000000000000000000000000000000000000000000000000000000000000000000000000000000000000000000000000000000000000000000000 w w' := ⟨fun k j o _ _ => ⟨h.1 k j o, h.2.2.2.2 k j o⟩, fun k o i hm => ⟨h.2.1 k o i (fun y => by rcases y.1 with rfl | rfl <;> revert hm <;> decide), h.2.2.1 k o i, h.2.2.2.1 k o i⟩⟩
theorem zMV_mh {b : Nat} {w w' : St} {T : Tp} {E : Ev} {K : Int32 → Int32 → Int32 → Prop} {g : Sg} {X TS TA TB : List Nat} (f : zMh b w w') (h : zMV w T E g K X TS TA TB) : zMV w' T E g K X TS TA TB := zMV_fr (zMh_fr f) (by decide) f.2.2.1 h
/-- from the model's advert to the base's -/
theorem zMA_Ad {w : St} {a of_ num : Nat} {D : Dg} {L : List En} (h : zMA w a D) (hA : zAe D.2 of_ num L) (hL : zEn L) (hl : L.length < 2147483648) : zAdw w a of_ num L := by
  obtain ⟨m0, m1, nN, nF, n24, m2, m3, m6, m7, m8, m9⟩ := h
  obtain ⟨a0, a1, a2, a3⟩ := hA
  have hn : nN + nF = L.length := by
    have := m6.symm.trans a2
    exact (zo_eq (by omega) (by omega)).mp this
  refine ⟨⟨m0.trans a0, m1.trans a1⟩, nN, ⟨by omega, by omega⟩, m2, by rw [m3]; congr 1; omega, fun i e he => ?_, fun k h1 h2 => m9 k (by omega) h2⟩
  have hil := (List.getElem?_eq_some_iff.mp he).1
  obtain ⟨b1, b2, b3, b4⟩ := m8 i (by omega)
  obtain ⟨c1, c2, c3⟩ := a3 i e he
  have h16 := (hL.2 e (List.mem_of_getElem? he)).1
  refine ⟨by rw [b1, c1], ?_, ?_, ?_⟩
  · rw [show 4 + 3 * i + 1 = 5 + 3 * i by omega, b2, show 14 + 6 * i = 12 + 6 * i + 2 by omega, c2]
  · rw [show 4 + 3 * i + 2 = 6 + 3 * i by omega, b3, show 16 + 6 * i = 12 + 6 * i + 4 by omega, c3]
  · rw [← b4, c1, show (0 : Int32) = Int32.ofNat 0 from rfl, zo_eq (by omega) (by omega)]
/-- an advert comes, the model's way: its own number is noted also where it is not new -/
def rAdm (b key of_ num : Nat) (L : List En) (now : Nat) (s : Rs) : Rs :=
  if fn (rH s) key = false then s else
  if num ≤ bNum (rB s) of_ ∨ of_ = b then (hDue (rH s) key of_ (if num < bNum (rB s) of_ then now else 0), rThx s (key, of_, num), rB s, rm s, ro s, if of_ = b then max (rh s) num else rh s) else
  (hAll (hDue (rH s) key of_ 0) of_ (some key) now, rThx s (key, of_, num), bSet (rB s) of_ (some (num, now, L)), rm s, ro s, rh s)
theorem rAdm_eq {b key of_ num : Nat} {L : List En} {now : Nat} {s : Rs} (ho : bNum (rB s) b ≤ ro s) : ∃ h, rAdm b key of_ num L now s = ((rAdv b key of_ num L now s).1, (rAdv b key of_ num L now s).2.1, (rAdv b key of_ num L now s).2.2.1, (rAdv b key of_ num L now s).2.2.2.1, (rAdv b key of_ num L now s).2.2.2.2.1, h) ∧ max (ro (rAdv b key of_ num L now s)) h = max (ro (rAdv b key of_ num L now s)) (rh (rAdv b key of_ num L now s)) := by
  unfold rAdm rAdv
  by_cases c : fn (rH s) key = false
  · rw [if_pos c, if_pos c]; exact ⟨_, rfl, rfl⟩
  · rw [if_neg c, if_neg c]
    by_cases c1 : num < bNum (rB s) of_
    · rw [if_pos (Or.inl (by omega)), if_pos c1, if_pos c1]
      refine ⟨_, rfl, ?_⟩
      show max (ro s) (if of_ = b then max (rh s) num else rh s) = max (ro s) (rh s)
      by_cases d : of_ = b
      · rw [if_pos d]; rw [d] at c1; omega
      · rw [if_neg d]
    · rw [if_neg c1, if_neg c1]
      by_cases c2 : num = bNum (rB s) of_
      · rw [if_pos (Or.inl (by omega)), if_pos c2]
        refine ⟨_, rfl, ?_⟩
        show max (ro s) (if of_ = b then max (rh s) num else rh s) = max (ro s) (rh s)
        by_cases d : of_ = b
        · rw [if_pos d]; rw [d] at c2; omega
        · rw [if_neg d]
      · rw [if_neg c2]
        by_cases d : of_ = b
        · rw [if_pos (Or.inr d), if_pos d, if_pos d]; exact ⟨_, rfl, rfl⟩
        · rw [if_neg (by omega), if_neg d]; exact ⟨_, rfl, rfl⟩
theorem rAdm_cl {z : St} {b key of_ num : Nat} {L : List En} {now : Nat} {s : Rs} (ho : bNum (rB s) b ≤ ro s) (h : zRcl z b (rAdv b key of_ num L now s)) : zRcl z b (rAdm b key of_ num L now s) := by
  obtain ⟨v, e, hm⟩ := rAdm_eq (b := b) (key := key) (of_ := of_) (num := num) (L := L) (now := now) ho
  rw [e]
  obtain ⟨h1, h2, h3, h4, h5, h6⟩ := h
  refine ⟨h1, h2, h3, h4, h5, ?_⟩
  show zgI z 0 8 b = Int32.ofNat (max (ro (rAdv b key of_ num L now s)) v)
  rw [hm]; exact h6
theorem bNum_m {w : St} {b r : Nat} {Ba : Nat → Option Ad} (h : zRmB w b Ba) (hr : r < 16) : (zgA w 150 b r = -1 ∧ bNum Ba r = 0) ∨ ∃ x, x < 2400 ∧ zgA w 150 b r = Int32.ofNat x ∧ mad w x 1 = Int32.ofNat (bNum Ba r) := by
  have := h r hr
  unfold bNum
  cases e : Ba r with
  | none => rw [e] at this; exact Or.inl ⟨this, rfl⟩
  | some a =>
    rw [e] at this
    obtain ⟨x, x1, x2, -, x3⟩ := this
    exact Or.inr ⟨x, x1, x2, x3.1.2⟩
theorem zm_adv217 {w : St} {b of_ num r N : Nat} (h0 : zgI w 12 0 b = Int32.ofNat b) (h17 : zgI w 12 17 b = Int32.ofNat r) (hb : b < 16) (ho : of_ < 16) (hn : num ≤ 16000000) (hr : r ≤ 16000000) : fX19_advertCame_217 N b (Int32.ofNat of_) (Int32.ofNat num) w = some (0, zsI w 12 17 b (Int32.ofNat (if of_ = b then max r num else r))) := by
  unfold fX19_advertCame_217
  have id : zsI w 12 17 b (Int32.ofNat r) = w := by rw [← h17]; exact zsI_id _ _ _ _
  rw [h0]
  by_cases c : of_ = b
  · rw [if_neg (by rw [zo_eq (by omega) (by omega)]; exact fun y => y c), h17, if_pos c]
    by_cases d : num ≤ r
    · rw [if_pos (by rw [zo_le (by omega) (by omega)]; exact d), Nat.max_eq_left d, id]
    · rw [if_neg (by rw [zo_le (by omega) (by omega)]; exact d), zl_e, Nat.max_eq_right (by omega)]
  · rw [if_pos (by rw [zo_eq (by omega) (by omega)]; exact c), if_neg c, id]
/-- an advert comes, the model: thanks are noted -/
theorem zm_advThanks {w : St} {T : Tp} {b port rt_ d a p of_ num N : Nat} {i : Nat} {ids : Nat → Nat} {Lt : List (Nat × Nat × Nat)} {now : Nat} (hd : d < 2400) (h0 : md w d 0 = zad p) (h9 : md w d 9 = Int32.ofNat port) (h12 : md w d 12 = Int32.ofNat rt_) (h11 : md w d 11 = Int32.ofNat a) (ha : a < 2400) (hA0 : mad w a 0 = Int32.ofNat of_) (hA1 : mad w a 1 = Int32.ofNat num) (hps : tpo T rt_ (tq T b port / 8) = some p) (hp : port < 6) (hr : rt_ < 16) (ho : of_ < 16) (hT : zRmT w T b Lt) (hl : Lt.length ≤ 64) (hnow : zgI w 19 24 0 = Int32.ofNat now) (hf : fX19_friend N b (Int32.ofNat port) (Int32.ofNat rt_) w = some (some (ids i), w)) :
    ∃ w1, fX19_advertCame N 0 b (Int32.ofNat d) w = fX19_advertCame_125 N 0 b (ids i) (Int32.ofNat a) (Int32.ofNat of_) (Int32.ofNat num) w1 ∧ zRmT w1 T b (if Lt.length < 64 then Lt ++ [(16 * port + rt_, of_, num)] else Lt) ∧ zFr 0x7000000000000000000000000000000000000000000000000000000000000000000000000000000000000000000000000000000000000000000000000000000000000000400000000000000000000000000000000000000000000000000000000000000000000000000000000000000000000000000000000000000000000000000000000000000000000000000000000000000000000000000000000000000000000000000000 (zsI w 19 27 0 (zgI w1 19 27 0)) w1 ∧ (∀ k j o, ¬ (k = 12 ∧ j = 22 ∧ o = b) → ¬ (k = 19 ∧ j = 27) → zgI w1 k j o = zgI w k j o) ∧ zgI w1 19 27 0 = (if Lt.length = 64 then Int32.ofNat now else zgI w 19 27 0) ∧ (∀ k o i, ¬ ((k = 152 ∨ k = 153 ∨ k = 154) ∧ o = b) → zgA w1 k o i = zgA w k o i) ∧ (∀ k o i, zgL w1 k o i = zgL w k o i) ∧ (∀ k o i, zgQ w1 k o i = zgQ w k o i) ∧ zMr b w w1 := by
  obtain ⟨t1, t2⟩ := hT
  have o9 : fX19_of N 0 (Int32.ofNat d) (9 : Int32) w = some (Int32.ofNat port, w) := by
    have := zm_of (w := w) (N := N) (k := 9) hd (by omega); rw [h9] at this; exact this
  have o12 : fX19_of N 0 (Int32.ofNat d) (12 : Int32) w = some (Int32.ofNat rt_, w) := by
    have := zm_of (w := w) (N := N) (k := 12) hd (by omega); rw [h12] at this; exact this
  have o11 : fX19_of N 0 (Int32.ofNat d) (11 : Int32) w = some (Int32.ofNat a, w) := by
    have := zm_of (w := w) (N := N) (k := 11) hd (by omega); rw [h11] at this; exact this
  have a0 : fX19_ad N 0 (Int32.ofNat a) (0 : Int32) w = some (Int32.ofNat of_, w) := by
    have := zm_ad (w := w) (N := N) (k := 0) ha (by omega); rw [hA0] at this; exact this
  have a1 : fX19_ad N 0 (Int32.ofNat a) (1 : Int32) w = some (Int32.ofNat num, w) := by
    have := zm_ad (w := w) (N := N) (k := 1) ha (by omega); rw [hA1] at this; exact this
  by_cases c : Lt.length = 64
  · have c' : ¬ Lt.length < 64 := by omega
    refine ⟨zsI w 19 27 0 (Int32.ofNat now), ?_, ?_, by rw [show zgI (zsI w 19 27 0 (Int32.ofNat now)) 19 27 0 = Int32.ofNat now from by rw [zgI_sI, if_pos ⟨rfl, rfl, rfl⟩]]; exact zFr_rf _ _, fun k j o n1 n2 => ?_, ?_, fun _ _ _ _ => rfl, fun _ _ _ => rfl, fun _ _ _ => rfl, zMr_I (Or.inr (Or.inr ⟨rfl, Or.inr rfl⟩))⟩
    · unfold fX19_advertCame
      rw [o9, zc_e, o12, zc_e, hf, zc_e, zo_e, o11, zc_e, a0, zc_e, a1, zc_e, t1, if_pos (by rw [show (64 : Int32) = Int32.ofNat 64 from rfl, zo_le (by omega) (by omega)]; omega)]
      unfold fX19_stir
      rw [zl_e, zc_e, hnow]
    · rw [if_neg c']
      exact zRmT_cg (by rw [zgI_sI, if_neg (by omega)]) (fun _ _ _ => rfl) ⟨t1, t2⟩
    · rw [zgI_sI, if_neg (fun y => n2 ⟨y.1, y.2.1⟩)]
    · rw [if_pos c, zgI_sI, if_pos ⟨rfl, rfl, rfl⟩]
  · have c' : Lt.length < 64 := by omega
    let w3 : St := zsA (zsA (zsA w 152 b Lt.length (Int32.ofNat port)) 153 b Lt.length (zad p)) 154 b Lt.length ((Int32.ofNat of_ <<< ((24 : Int32) &&& 31)) ||| Int32.ofNat num)
    let w1 : St := zsI w3 12 22 b (Int32.ofNat (Lt.length + 1))
    have A1 : ∀ k o i, zgA w1 k o i = if k = 154 ∧ o = b ∧ i = Lt.length then ((Int32.ofNat of_ <<< ((24 : Int32) &&& 31)) ||| Int32.ofNat num) else if k = 153 ∧ o = b ∧ i = Lt.length then zad p else if k = 152 ∧ o = b ∧ i = Lt.length then Int32.ofNat port else zgA w k o i := fun k o i => by
      show zgA (zsA (zsA (zsA w 152 b _ _) 153 b _ _) 154 b _ _) k o i = _
      rw [zgA_sA, zgA_sA, zgA_sA]
    have o0 : fX19_of N 0 (Int32.ofNat d) (0 : Int32) (zsA w 152 b Lt.length (Int32.ofNat port)) = some (zad p, zsA w 152 b Lt.length (Int32.ofNat port)) := by
      have := zm_of (w := zsA w 152 b Lt.length (Int32.ofNat port)) (N := N) (k := 0) hd (by omega)
      have e : md (zsA w 152 b Lt.length (Int32.ofNat port)) d 0 = zad p := by
        show zgA (zsA w 152 b Lt.length (Int32.ofNat port)) 172 0 (18 * d + 0) = zad p
        rw [zgA_sA, if_neg (by omega)]; exact h0
      rw [e] at this; exact this
    refine ⟨w1, ?_, ?_, by rw [show zgI w1 19 27 0 = zgI w 19 27 0 from by rw [zgI_sI, if_neg (by omega)]; rfl, zsI_id]; exact zFr_I (zFr_A (zFr_A (zFr_A (zFr_rf _ _) (by decide)) (by decide)) (by decide)) (by decide), fun k j o n1 n2 => ?_, ?_, fun k o i n => ?_, fun _ _ _ => rfl, fun _ _ _ => rfl, zMr_tr (zMr_A (Or.inl ⟨rfl, by omega⟩)) (zMr_tr (zMr_A (Or.inl ⟨rfl, by omega⟩)) (zMr_tr (zMr_A (Or.inl ⟨rfl, by omega⟩)) (zMr_I (Or.inl ⟨rfl, rfl, by omega⟩))))⟩
    · unfold fX19_advertCame
      have i1 : zgI (zsA w 152 b Lt.length (Int32.ofNat port)) 12 22 b = Int32.ofNat Lt.length := t1
      have i2 : zgI (zsA (zsA w 152 b Lt.length (Int32.ofNat port)) 153 b Lt.length (zad p)) 12 22 b = Int32.ofNat Lt.length := t1
      have i3 : zgI w3 12 22 b = Int32.ofNat Lt.length := t1
      rw [o9, zc_e, o12, zc_e, hf, zc_e, zo_e, o11, zc_e, a0, zc_e, a1, zc_e, t1, if_neg (by rw [show (64 : Int32) = Int32.ofNat 64 from rfl, zo_le (by omega) (by omega)]; omega), o9, zc_e, zkk c' (by omega), zoC (by omega), zl_e, o0, zc_e, i1, zkk c' (by omega), zoC (by omega), zl_e, i2, zkk c' (by omega), zoC (by omega), zl_e]
      show zl (zsI w3 12 22 b (zgI w3 12 22 b + 1)) _ = _
      rw [i3, zo_i1, zl_e]
    · rw [if_pos c']
      refine ⟨by rw [zgI_sI, if_pos ⟨rfl, rfl, rfl⟩]; simp, fun i e hi => ?_⟩
      by_cases ci : i = Lt.length
      · rw [ci, List.getElem?_append_right (Nat.le_refl _), Nat.sub_self] at hi
        have he : (16 * port + rt_, of_, num) = e := by simpa using hi
        have q1 : (16 * port + rt_) / 16 = port := by omega
        have q2 : (16 * port + rt_) % 16 = rt_ := by omega
        rw [← he]
        refine ⟨?_, ⟨p, ?_, ?_⟩, ?_⟩
        · rw [A1, if_neg (by omega), if_neg (by omega), if_pos ⟨rfl, rfl, ci⟩, q1]
        · rw [q1, q2]; exact hps
        · rw [A1, if_neg (by omega), if_pos ⟨rfl, rfl, ci⟩]
        · rw [A1, if_pos ⟨rfl, rfl, ci⟩]
      · have hil := (List.getElem?_eq_some_iff.mp hi).1
        rw [List.length_append] at hil
        have hil : i < Lt.length := by simp at hil; omega
        rw [List.getElem?_append_left hil] at hi
        have same : ∀ k, zgA w1 k b i = zgA w k b i := fun k => by
          rw [A1, if_neg (fun y => ci y.2.2), if_neg (fun y => ci y.2.2), if_neg (fun y => ci y.2.2)]
        rw [same, same, same]
        exact t2 i e hi
    · rw [zgI_sI, if_neg n1]; rfl
    · rw [if_neg c, zgI_sI, if_neg (by omega)]; rfl
    · rw [A1, if_neg (fun y => n ⟨by omega, y.2.1⟩), if_neg (fun y => n ⟨by omega, y.2.1⟩), if_neg (fun y => n ⟨by omega, y.2.1⟩)]
