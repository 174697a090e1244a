/-! a door drains: both sides -/
def alC (c : Bool) (e : Nat) (t : Int32) (w : St) : St := if c = true then alM e t w else w
theorem alC_I {c : Bool} {e : Nat} {t : Int32} {w : St} {k j o : Nat} (h : ¬ (k = 14 ∧ (j = 33 ∨ j = 34) ∧ o = e)) : zgI (alC c e t w) k j o = zgI w k j o := by
  unfold alC; split
  · exact alM_I h
  · rfl
theorem alC_s {c : Bool} {e k j o : Nat} {t v : Int32} {w : St} (h : ¬ (k = 14 ∧ (j = 33 ∨ j = 34) ∧ o = e)) : zsI (alC c e t w) k j o v = alC c e t (zsI w k j o v) := by
  unfold alC; split
  · exact alM_s h
  · rfl
theorem alC_r {c : Bool} {w : St} {e b : Nat} {t : Int32} : rxM (alC c e t w) e b = alC c e t (rxM w e b) ∧ rbM (alC c e t w) e = rbM w e := by
  unfold alC; split
  · exact rxM_al
  · exact ⟨rfl, rfl⟩
/-- what draining changes -/
def zDrC (e : Nat) (z z' : St) : Prop := (∀ k j o, ¬ (o = e ∧ (k = 4 ∧ (j = 2 ∨ j = 3) ∨ k = 3 ∧ j = 13 ∨ k = 2 ∧ (j = 9 ∨ j = 10 ∨ j = 11))) → ¬ (k = 11 ∧ j = 8) → zgI z' k j o = zgI z k j o) ∧ (∀ k o i, ¬ ((k = 120 ∨ k = 121 ∨ k = 124) ∧ o = e) → zgA z' k o i = zgA z k o i) ∧ (∀ k o i, zgL z' k o i = zgL z k o i) ∧ (∀ k o i, zgQ z' k o i = zgQ z k o i) ∧ ∀ k o i, zgR z' k o i = zgR z k o i
def zDrM (e : Nat) (w w' : St) : Prop := (∀ k j o, ¬ (k = 14 ∧ o = e ∧ ¬ (j = 2 ∨ j = 3 ∨ j = 4 ∨ j = 44 ∨ j = 45)) → ¬ (k = 13 ∧ j = 9 ∧ o = e) → ¬ (k = 19 ∧ j = 26 ∧ o = 0) → zgI w' k j o = zgI w k j o) ∧ (∀ k o i, zgA w' k o i = zgA w k o i) ∧ (∀ k o i, zgL w' k o i = zgL w k o i) ∧ (∀ k o i, zgQ w' k o i = zgQ w k o i) ∧ ∀ k o i, zgR w' k o i = zgR w k o i
theorem zDrC_rf (e : Nat) (z : St) : zDrC e z z := ⟨fun _ _ _ _ _ => rfl, fun _ _ _ _ => rfl, fun _ _ _ => rfl, fun _ _ _ => rfl, fun _ _ _ => rfl⟩
theorem zDrM_rf (e : Nat) (z : St) : zDrM e z z := ⟨fun _ _ _ _ _ _ => rfl, fun _ _ _ => rfl, fun _ _ _ => rfl, fun _ _ _ => rfl, fun _ _ _ => rfl⟩
theorem zDrC_tr {e : Nat} {x y z : St} (h1 : zDrC e x y) (h2 : zDrC e y z) : zDrC e x z := ⟨fun k j o a b => (h2.1 k j o a b).trans (h1.1 k j o a b), fun k o i a => (h2.2.1 k o i a).trans (h1.2.1 k o i a), fun k o i => (h2.2.2.1 k o i).trans (h1.2.2.1 k o i), fun k o i => (h2.2.2.2.1 k o i).trans (h1.2.2.2.1 k o i), fun k o i => (h2.2.2.2.2 k o i).trans (h1.2.2.2.2 k o i)⟩
theorem zDrM_tr {e : Nat} {x y z : St} (h1 : zDrM e x y) (h2 : zDrM e y z) : zDrM e x z := ⟨fun k j o a b c => (h2.1 k j o a b c).trans (h1.1 k j o a b c), fun k o i => (h2.2.1 k o i).trans (h1.2.1 k o i), fun k o i => (h2.2.2.1 k o i).trans (h1.2.2.1 k o i), fun k o i => (h2.2.2.2.1 k o i).trans (h1.2.2.2.1 k o i), fun k o i => (h2.2.2.2.2 k o i).trans (h1.2.2.2.2 k o i)⟩
theorem zp_drain {n e b N : Nat} {a : Bool} {t : Int32} (hn : n ≤ 512) (hb : b < 2592) (hN : 600 < N) :
    ∀ (R : Nat) (z w : St) (c nf nm p : Nat), zgI z 4 3 e = Int32.ofNat R → c + R ≤ 2048 → R < nf → R < nm → zEe z w e → zgR z 3 17 e = some e → zgR z 2 12 e = some e → zgI z 11 19 0 = Int32.ofNat n → zgI w 14 45 e = Int32.ofNat b → zTie z w n (zgI z 3 15 e) b → zPl z w n e p → p + R ≤ (lgS z (zgI z 3 15 e) n).length → (lgS z (zgI z 3 15 e) n).length ≤ p + 4096 → (lgS z (zgI z 3 15 e) n).length < 2147480000 → zgI z 11 8 0 = zgI w 19 26 0 → zgI z 2 9 e = zgI w 13 9 e → ¬ zgI w 13 8 e = 0 →
    ∃ z' w', fX11_settle_14 N nf 0 e (some e) (Int32.ofNat c) z = fX11_settle_54 N 0 e (some e) z' ∧ fX19_doorTurn_118 N nm 0 e e (alC a e t w) = fX19_doorTurn_152 N 0 e e (alC a e t w') ∧ zEe z' w' e ∧ zgI z' 4 3 e = 0 ∧ zgI z' 11 8 0 = zgI w' 19 26 0 ∧ zgI z' 2 9 e = zgI w' 13 9 e ∧ zPl z' w' n e (p + R) ∧ zDrC e z z' ∧ zDrM e w w' := by
  intro R
  induction R with
  | zero =>
    intro z w c nf nm p h43 hc hf hm hE r17 r212 h19 h45 ht hp hs1 hs2 hs3 hst h29 h138
    obtain ⟨nf, rfl⟩ : ∃ k, nf = k + 1 := ⟨nf - 1, by omega⟩
    obtain ⟨nm, rfl⟩ : ∃ k, nm = k + 1 := ⟨nm - 1, by omega⟩
    refine ⟨z, w, ?_, ?_, hE, h43, hst, h29, hp, zDrC_rf e z, zDrM_rf e w⟩
    · show fX11_settle_14b N (fX11_settle_14 N nf) 0 e (some e) (Int32.ofNat c) z = _
      unfold fX11_settle_14b
      by_cases q : (2048 : Int32) ≤ Int32.ofNat c
      · rw [if_pos q]
      · rw [if_neg q, zd_e, r17, zl_e, zd_e, h43, if_pos (by decide)]
    · obtain ⟨R2, q1, q2, q3, q4, q5⟩ := zp_room (N := N) hE.2.2.1
      have e0 : R2 = 0 := (zo_eq (by omega) (by omega)).mp (q2.symm.trans h43)
      subst e0
      have rv0 : rvM (alC a e t w) e = 0 := by
        have : rvM w e = 0 := by
          have q := (zm_rv w e N).symm.trans q4
          exact (Prod.mk.inj (Option.some.inj q)).1
        rw [← this]
        unfold rvM
        rw [alC_I (by omega), alC_I (by omega), alC_I (by omega), alC_I (by omega)]
      show fX19_doorTurn_118b N (fX19_doorTurn_118 N nm) 0 e e (alC a e t w) = _
      unfold fX19_doorTurn_118b
      rw [alC_I (by omega), if_neg h138, zm_rv, zc_e, rv0, if_pos (by decide)]
  | succ R ih =>
    intro z w c nf nm p h43 hc hf hm hE r17 r212 h19 h45 ht hp hs1 hs2 hs3 hst h29 h138
    obtain ⟨nf, rfl⟩ : ∃ k, nf = k + 1 := ⟨nf - 1, by omega⟩
    obtain ⟨nm, rfl⟩ : ∃ k, nm = k + 1 := ⟨nm - 1, by omega⟩
    have n0 : ¬ zgI z 4 3 e ≤ 0 := by
      rw [h43]
      intro q
      have := (zo_le (b := 0) (by omega) (by omega)).mp q
      omega
    obtain ⟨v, z1, w1, b1, b2, b3, b4, b5, b6, b7, b8, b9, c1, c2, wx, s, c3, c4, c5⟩ := zp_readS (N := N) r17 r212 h19 hn hE n0 hb h45 ht hp (by omega) hs2 (by omega) hst hN
    obtain ⟨p46, -⟩ := id hp
    have rx := zm_readX (N := N) hb h45 p46 (by omega)
    rw [b2] at rx
    obtain ⟨rx1, rx2⟩ := Prod.mk.inj (Option.some.inj rx)
    have rxa := zm_readX (N := N) (w := alC a e t w) hb ((alC_I (by omega)).trans h45) ((alC_I (by omega)).trans p46) (by omega)
    rw [(alC_r (b := b)).1, (alC_r (b := b)).2, ← rx1, ← rx2] at rxa
    obtain ⟨z2, hz2⟩ : ∃ u, u = zsI z1 2 9 e ((31 : Int32) * zgI z 2 9 e + v) := ⟨_, rfl⟩
    obtain ⟨w2, hw2⟩ : ∃ u, u = zsI w1 13 9 e ((31 : Int32) * zgI w 13 9 e + v) := ⟨_, rfl⟩
    have fI1 : ∀ k j o, ¬ (k = 14 ∧ o = e ∧ ¬ (j = 2 ∨ j = 3 ∨ j = 4 ∨ j = 44 ∨ j = 45)) → ¬ (k = 19 ∧ j = 26 ∧ o = 0) → zgI w1 k j o = zgI w k j o := fun k j o q q2 => by
      rw [c5, zgI_sI, zgI_sI, if_neg (by omega), if_neg (by omega)]; exact c3.1 k j o (by omega)
    have C : zDrC e z z2 := ⟨fun k j o q q2 => by rw [hz2, zgI_sI, if_neg (by omega)]; exact b7 k j o (by omega) q2, fun k o i q => by rw [hz2]; exact b8 k o i q, fun k o i => by rw [hz2]; exact b9 k o i, fun k o i => by rw [hz2]; exact c1 k o i, fun k o i => by rw [hz2]; exact c2 k o i⟩
    have M : zDrM e w w2 := ⟨fun k j o q q2 q3 => by rw [hw2, zgI_sI, if_neg (by omega)]; exact fI1 k j o q q3, fun k o i => by rw [hw2, c5]; exact c4 k o i, fun k o i => by rw [hw2, c5]; exact c3.2.2.1 k o i, fun k o i => by rw [hw2, c5]; exact c3.2.2.2.1 k o i, fun k o i => by rw [hw2, c5]; exact c3.2.2.2.2 k o i⟩
    have E2 : zEe z2 w2 e := zEe_same (fun k j hk => by rw [hz2, zgI_sI, if_neg (by omega)]) (fun k i => by rw [hz2]; rfl) (fun j hj => by rw [hw2, zgI_sI, if_neg (by omega)]) (fun k i => by rw [hw2]; rfl) b3
    have m15 : zgI z2 3 15 e = zgI z 3 15 e := C.1 3 15 e (by omega) (by omega)
    have S2 : ∀ k, lgS z2 (zgI z 3 15 e) k = lgS z (zgI z 3 15 e) k := fun k => lgS_cg k (fun i _ => ⟨C.2.1 143 0 i (by omega), C.2.1 144 0 i (by omega), C.2.2.1 145 0 i⟩)
    have h43' : zgI z2 4 3 e = Int32.ofNat R := by
      obtain ⟨R2, q1, q2, -⟩ := zp_room (N := N) E2.2.2.1
      have q3 : zgI z2 4 3 e = zgI z1 4 3 e := by rw [hz2, zgI_sI, if_neg (by omega)]
      rw [h43, zoC (by omega), ← q3, q2, zoC (by omega)] at b6
      rw [q2]; congr 1; omega
    have T2 : zTie z2 w2 n (zgI z2 3 15 e) b := by
      unfold zTie
      rw [m15, S2, M.2.1 182 0 b]
      refine ⟨ht.1, fun p' q1 q2 => ?_⟩
      rw [ht.2 p' q1 q2]
      congr 1
      unfold bkB; rw [M.2.2.1]
    have P2 : zPl z2 w2 n e (p + 1) := by
      obtain ⟨y1, x, y, y2, y3⟩ := b5
      have k15 : zgI z2 3 15 e = zgI z1 3 15 e := by rw [hz2, zgI_sI, if_neg (by omega)]
      refine ⟨by rw [hw2, zgI_sI, if_neg (by omega)]; exact y1, x, y, ?_, ?_⟩
      · rw [k15]; exact zPt_cg (by rw [hz2, zgI_sI, if_neg (by omega)]) (by rw [hz2, zgI_sI, if_neg (by omega)]) (fun k i _ => by rw [hz2]; rfl) y2
      · rw [k15, ← y3]; exact lgP_cg (fun k i _ => by rw [hz2]; rfl) (fun i => by rw [hz2]; rfl)
    obtain ⟨z', w', d1, d2, d3, d4, d5, d6, d7, d8, d9⟩ := ih z2 w2 (c + 1) nf nm (p + 1) h43' (by omega) (by omega) (by omega) E2 ((C.2.2.2.2 3 17 e).trans r17) ((C.2.2.2.2 2 12 e).trans r212) ((C.1 11 19 0 (by omega) (by omega)).trans h19) ((M.1 14 45 e (by omega) (by omega) (by omega)).trans h45) T2 P2 (by rw [m15, S2]; omega) (by rw [m15, S2]; omega) (by rw [m15, S2]; omega) (by rw [hz2, hw2, zgI_sI, zgI_sI, if_neg (by omega), if_neg (by omega)]; exact b4) (by rw [hz2, hw2, zgI_sI, zgI_sI, if_pos ⟨rfl, rfl, rfl⟩, if_pos ⟨rfl, rfl, rfl⟩, h29]) (by rw [M.1 13 8 e (by omega) (by omega) (by omega)]; exact h138)
    refine ⟨z', w', ?_, ?_, d3, d4, d5, d6, by rw [show p + (R + 1) = p + 1 + R from by omega]; exact d7, zDrC_tr C d8, zDrM_tr M d9⟩
    · rw [← d1]
      show fX11_settle_14b N (fX11_settle_14 N nf) 0 e (some e) (Int32.ofNat c) z = _
      unfold fX11_settle_14b
      rw [if_neg (show ¬ (2048 : Int32) ≤ Int32.ofNat c from fun q => by
        have := (zo_le (a := 2048) (by omega) (by omega)).mp q
        omega), zd_e, r17, zl_e, zd_e, if_neg n0, b1, zc_e, ← hz2, zl_e, show Int32.ofNat c + 1 = Int32.ofNat (c + 1) from zo_add c 1, zl_e]
    · rw [← d2]
      obtain ⟨R2, q1, q2, q3, q4, q5⟩ := zp_room (N := N) hE.2.2.1
      have e0 : R2 = R + 1 := (zo_eq (by omega) (by omega)).mp (q2.symm.trans h43)
      have rv0 : rvM (alC a e t w) e = Int32.ofNat (R + 1) := by
        have : rvM w e = Int32.ofNat (R + 1) := by
          have q := (zm_rv w e N).symm.trans q4
          rw [← e0]; exact (Prod.mk.inj (Option.some.inj q)).1
        rw [← this]
        unfold rvM
        rw [alC_I (by omega), alC_I (by omega), alC_I (by omega), alC_I (by omega)]
      show fX19_doorTurn_118b N (fX19_doorTurn_118 N nm) 0 e e (alC a e t w) = _
      unfold fX19_doorTurn_118b
      rw [alC_I (by omega), if_neg h138, zm_rv, zc_e, rv0, if_neg (by rw [← h43]; exact n0), rxa, zc_e, alC_I (by omega), alC_s (by omega), ← hw2, zl_e]
