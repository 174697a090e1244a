/-! the probe's alarm on both sides, as a flag -/
def zSme {α : Type} (z : St) (x : Option (α × St)) : Prop := ∀ r z', x = some (r, z') → z' = z
theorem zSme_s {α : Type} {z : St} {r : α} : zSme z (some (r, z)) := fun _ _ e => by cases e; rfl
theorem zSme_i {α : Type} {z : St} {c : Prop} [dc : Decidable c] {a b : Option (α × St)} (ha : zSme z a) (hb : zSme z b) : zSme z (if c then a else b) := by
  split
  · exact ha
  · exact hb
theorem zSme_c {α β : Type} {z : St} {x : Option (β × St)} {K : β → St → Option (α × St)} (h : zSme z x) (hh : ∀ r, zSme z (K r z)) : zSme z (zc x K) := fun r z' e => by
  obtain ⟨a, z1, e1, e2⟩ := zc_some e
  have := h a z1 e1
  subst this
  exact hh a r z' e2
theorem zm_hasNew_st (w : St) (e N : Nat) : zSme w (fX14_hasNew N e w) := by
  have ib : ∀ a b, zSme w (fX19_isBefore N a b w) := fun a b => by unfold fX19_isBefore; exact zSme_i zSme_s zSme_s
  unfold fX14_hasNew fX14_sendsNew fX14_sendsNew_43 fX14_lastSent fX14_hasNew_35
  exact zSme_c (zSme_i zSme_s (zSme_i zSme_s (zSme_i zSme_s (zSme_i zSme_s (zSme_i zSme_s zSme_s))))) (fun r => zSme_i zSme_s (zSme_c (ib _ _) (fun r => zSme_i zSme_s (zSme_i zSme_s (zSme_c (zSme_i zSme_s (zSme_c (ib _ _) (fun r => zSme_i zSme_s zSme_s))) (fun r => zSme_i zSme_s zSme_s))))))
theorem zm_persist_sh {w w' : St} {e N : Nat} {x r : Int32} (h : fX14_persist N e x w = some (r, w')) : w' = w ∨ (zgI w 14 33 e = 0 ∧ w' = alM e (x + zgI w 14 35 e) w) := by
  unfold fX14_persist at h
  by_cases c : zgI w 14 33 e = 0
  · rw [if_neg (fun y => y c)] at h
    by_cases c2 : zgI w 14 6 e = zgI w 14 7 e
    · rw [if_neg (fun y => y c2)] at h
      by_cases c3 : zgI w 14 11 e = 0
      · rw [if_neg (fun y => y c3)] at h
        obtain ⟨a, z1, e1, e2⟩ := zc_some h
        have := zm_hasNew_st w e N a z1 e1
        subst this
        by_cases c4 : a = 0
        · rw [if_pos c4] at e2; cases e2; exact Or.inl rfl
        · rw [if_neg c4] at e2
          unfold fX14_setAlarm at e2
          have e35 : zgI (zsI z1 14 33 e 1) 14 35 e = zgI z1 14 35 e := by rw [zgI_sI, if_neg (by omega)]
          rw [zl_e, e35, zl_e, zc_e] at e2
          cases e2
          exact Or.inr ⟨c, rfl⟩
      · rw [if_pos c3] at h; cases h; exact Or.inl rfl
    · rw [if_pos c2] at h; cases h; exact Or.inl rfl
  · rw [if_pos c] at h; cases h; exact Or.inl rfl
theorem zp_persistX {z w : St} {e n N : Nat} (hn : n ≤ 400000) (h16 : zgR z 3 16 e = some e) (h18 : zgR z 3 18 e = some e) (h : zEe z w e) : fX3_armProbe N e (Int32.ofNat n) z = some (0, if armB z e = true then zsI z 10 0 e (Int32.ofNat n + zgI z 10 2 e) else z) ∧ fX14_persist N e (Int32.ofNat n) w = some (0, if armB z e = true then alM e (Int32.ofNat n + zgI w 14 35 e) w else w) ∧ zEe (if armB z e = true then zsI z 10 0 e (Int32.ofNat n + zgI z 10 2 e) else z) (if armB z e = true then alM e (Int32.ofNat n + zgI w 14 35 e) w else w) e := by
  obtain ⟨z', w', a1, a2, a3, -⟩ := zp_persist (N := N) hn h16 h18 h
  have b1 := zc_armB (N := N) (Int32.ofNat n) h16 h18
  have ez : z' = (if armB z e = true then zsI z 10 0 e (Int32.ofNat n + zgI z 10 2 e) else z) := by
    rw [a1] at b1
    exact (Prod.mk.inj (Option.some.inj b1)).2
  have ew : w' = (if armB z e = true then alM e (Int32.ofNat n + zgI w 14 35 e) w else w) := by
    have t0 := h.2.2.2.1.1
    have t1 := a3.2.2.2.1.1
    have al33 : ∀ t, zgI (alM e t w) 14 33 e = 1 := fun t => by unfold alM; rw [zgI_sI, if_neg (by omega), zgI_sI, if_pos ⟨rfl, rfl, rfl⟩]
    by_cases c : armB z e = true
    · rw [if_pos c]
      have z0 : zgI z 10 0 e = 0 := by
        unfold armB at c
        by_cases q : zgI z 10 0 e = 0
        · exact q
        · rw [if_pos q] at c; exact absurd c (by decide)
      have w0 : zgI w 14 33 e = 0 := by
        rcases t0 with y | y
        · exact y.2
        · exact absurd z0 y.1
      have z1 : ¬ zgI z' 10 0 e = 0 := by
        obtain ⟨t, q1, q2, q3⟩ := h.2.2.2.1.2.2.2.2.2.2.2.2.2
        rw [ez, if_pos c, zgI_sI, if_pos ⟨rfl, rfl, rfl⟩, q3, zo_add]
        exact fun y => by
          have := (zo_eq (b := 0) (by omega) (by omega)).mp y
          omega
      rcases zm_persist_sh a2 with y | y
      · rcases t1 with q | q
        · exact absurd q.1 z1
        · rw [y, w0] at q; exact absurd q.2.1 (by decide)
      · exact y.2
    · rw [if_neg c]
      rw [if_neg c] at ez
      rcases zm_persist_sh a2 with y | y
      · exact y
      · rcases t1 with q | q
        · rw [y.2, al33] at q; exact absurd q.2 (by decide)
        · rw [ez] at q
          rcases t0 with p | p
          · exact absurd p.1 q.1
          · rw [y.1] at p; exact absurd p.2.1 (by decide)
  rw [← ez, ← ew]
  exact ⟨a1, a2, a3⟩
