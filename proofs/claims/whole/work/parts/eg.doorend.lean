/-! a door settles: both sides -/
theorem zFr_sym {M : Nat} {a b : St} (h : zFr M a b) : zFr M b a := ⟨fun k j o hk hm => ⟨(h.1 k j o hk hm).1.symm, (h.1 k j o hk hm).2.symm⟩, fun k o i hm => ⟨(h.2 k o i hm).1.symm, (h.2 k o i hm).2.1.symm, (h.2 k o i hm).2.2.symm⟩⟩
theorem zMV_dr {w w' : St} {T : Tp} {E : Ev} {K : Int32 → Int32 → Int32 → Prop} {g : Sg} {X TS TA TB : List Nat} {e : Nat} (h : zMV w T E g K X TS TA TB) (f : zDrM e w w') : zMV w' T E g K X TS TA TB := by
  obtain ⟨u, hu⟩ : ∃ u, u = zsI (zsI (zsI w' 13 9 e (zgI w 13 9 e)) 19 26 0 (zgI w 19 26 0)) 14 46 e (zgI w 14 46 e) := ⟨_, rfl⟩
  have F : ∀ k j o, ¬ (k = 14 ∧ o = e ∧ ¬ (j = 2 ∨ j = 3 ∨ j = 4 ∨ j = 44 ∨ j = 45 ∨ j = 46)) → zgI u k j o = zgI w k j o := fun k j o q => by
    rw [hu, zgI_sI]
    by_cases b : k = 14 ∧ j = 46 ∧ o = e
    · rw [if_pos b, b.1, b.2.1, b.2.2]
    · rw [if_neg b, zgI_sI]
      by_cases c : k = 19 ∧ j = 26 ∧ o = 0
      · rw [if_pos c, c.1, c.2.1, c.2.2]
      · rw [if_neg c, zgI_sI]
        by_cases d : k = 13 ∧ j = 9 ∧ o = e
        · rw [if_pos d, d.1, d.2.1, d.2.2]
        · rw [if_neg d]; exact f.1 k j o (by omega) d c
  have m : zEm1 e w u := ⟨F, fun k o i _ => by rw [hu]; exact f.2.1 k o i, fun k o i => by rw [hu]; exact f.2.2.1 k o i, fun k o i => by rw [hu]; exact f.2.2.2.1 k o i, fun k o i => by rw [hu]; exact f.2.2.2.2 k o i⟩
  have g1 : zFr 0x40000000000000000000000000000000000000000000000000000000000000000000000000040000000000000000000000002000000000000000000000000000000000000000000000000000000000000000000000000000000000000000000000000000000000000000000000000000000000000000000000000000000000000000000000000000000000000000000000000000000000000000000 w' u := by rw [hu]; exact zFr_I (zFr_I (zFr_I (zFr_rf _ _) (by decide)) (by decide)) (by decide)
  exact zMV_fr (zFr_sym g1) (by decide) (fun k o i => by rw [hu]; rfl) (zMV_em h m)
/-- what is wanted of reader and writer, where a door drains -/
def zSafe (z w : St) (e : Nat) : Prop := ∃ n b p R : Nat, (n ≤ 512 ∧ b < 2592 ∧ zgI z 11 19 0 = Int32.ofNat n ∧ zgI w 14 45 e = Int32.ofNat b ∧ zgI z 4 3 e = Int32.ofNat R ∧ R ≤ 2048) ∧ zTie z w n (zgI z 3 15 e) b ∧ zPl z w n e p ∧ p + R ≤ (lgS z (zgI z 3 15 e) n).length ∧ (lgS z (zgI z 3 15 e) n).length ≤ p + 4096 ∧ (lgS z (zgI z 3 15 e) n).length < 2147480000 ∧ zgI z 11 8 0 = zgI w 19 26 0
/-- the end of a door's turn: read to the last byte, or not at all; then settled -/
def zDEn (e : Nat) (z z' w w' : St) : Prop := ∃ z1 w1, ((z1 = z ∧ w1 = w) ∨ ∃ n b p R : Nat, (n ≤ 512 ∧ b < 2592 ∧ zgI z 11 19 0 = Int32.ofNat n ∧ zgI w 14 45 e = Int32.ofNat b ∧ zgI z 4 3 e = Int32.ofNat R ∧ R ≤ 2048) ∧ zTie z w n (zgI z 3 15 e) b ∧ zPl z w n e p ∧ p + R ≤ (lgS z (zgI z 3 15 e) n).length ∧ zgI z1 4 3 e = 0 ∧ zgI z1 11 8 0 = zgI w1 19 26 0 ∧ zPl z1 w1 n e (p + R) ∧ zDrC e z z1 ∧ zDrM e w w1) ∧ zStd e z1 z' w1 w'
theorem zp_doorEnd {z w : St} {T : Tp} {E : Ev} {g : Sg} {Wy : Wyt} {R : Rg} {mk : Nat → Nat} {K : Int32 → Int32 → Int32 → Prop} {TA : List Nat} {e bk n N : Nat} (hp : zIp z w T E g g Wy R mk K [] [] [] TA (zTB w T)) (hI : ∀ u, hEnd T u → zIx (zgI w 14 44 u) 2592 ∧ zIx (zgI w 14 45 u) 2592) (he : hEnd T e) (hn : n ≤ 400000) (hH : zHe z w K e bk n) (r134 : zgR w 13 4 e = some e) (hS : ¬ zgI z 2 8 e = 0 → ¬ zgI z 4 3 e ≤ 0 → zSafe z w e) (hN : 3000 < N) :
    ∃ z' w' g', fX11_settle N 0 e z = some (0, z') ∧ (zc (fX14_persist N e (Int32.ofNat n) w) fun _ z3 => fX19_doorTurn_118 N N 0 e e z3) = some (0, w') ∧ zIp z' w' T E g' g' Wy R mk K [] [] [] TA (zTB w' T) ∧ (∀ u, hEnd T u → zIx (zgI w' 14 44 u) 2592 ∧ zIx (zgI w' 14 45 u) 2592) ∧ (g' = g ∨ g' = sS g n) ∧ zDEn e z z' w w' := by
  obtain ⟨u0, ⟨r12, r16, r17, r18⟩, -, ⟨tc, tm⟩, -⟩ := id hH
  obtain ⟨he1, he2, he3⟩ := id he
  obtain ⟨⟨p1, p2, p3, p4, p5, p8, p9, p10⟩, hR, hW⟩ := id hp
  have hRd : zRd z w e := by
    have := p8 (e / 6) (e % 6) he2 he3 (by omega)
    rw [show 6 * (e / 6) + e % 6 = e from by omega] at this
    exact this
  have hE := zRd_E hRd u0
  obtain ⟨y9, y⟩ := id hRd
  have y : _ := y.resolve_left (fun q => by rw [q.1] at u0; exact absurd u0 (by decide))
  have y : _ := y.resolve_left (fun q => by rw [q.1] at u0; exact absurd u0 (by decide))
  obtain ⟨x1, x2, x3, x4, x5, x6, x7, x8, x9, x10, -⟩ := y
  obtain ⟨-, k2, -⟩ := zp_persistX (N := N) hn r16 r18 hE
  have k2 : fX14_persist N e (Int32.ofNat n) w = some (0, alC (armB z e) e (Int32.ofNat n + zgI w 14 35 e) w) := k2
  obtain ⟨nN, hNN⟩ : ∃ k, N = k + 1 := ⟨N - 1, by omega⟩
  rw [k2, zc_e]
  unfold fX11_settle
  rw [r12, zl_e]
  by_cases c8 : zgI z 2 8 e = 0
  · rw [if_pos c8]
    obtain ⟨z', w', g', a1, a2, a3, a4, a5, a6⟩ := zp_settled (N := N) hp hI he hn u0 r16 r17 r18 r134 tc tm
    refine ⟨z', w', g', a1, ?_, a3, a4, a5, z, w, Or.inl ⟨rfl, rfl⟩, a6⟩
    rw [← a2]
    have : ∀ u, zgI u 13 8 e = 0 → fX19_doorTurn_118 N (nN + 1) 0 e e u = fX19_doorTurn_152 N 0 e e u := fun u q => by
      show fX19_doorTurn_118b N (fX19_doorTurn_118 N nN) 0 e e u = _
      unfold fX19_doorTurn_118b
      rw [if_pos q]
    have q := this (alC (armB z e) e (Int32.ofNat n + zgI w 14 35 e) w) (by rw [alC_I (by omega), ← x10]; exact c8)
    rw [← hNN] at q; exact q
  · rw [if_neg c8]
    have c13 : ¬ zgI w 13 8 e = 0 := by rw [← x10]; exact c8
    by_cases c4 : zgI z 4 3 e ≤ 0
    · obtain ⟨z', w', g', a1, a2, a3, a4, a5, a6⟩ := zp_settled (N := N) hp hI he hn u0 r16 r17 r18 r134 tc tm
      refine ⟨z', w', g', ?_, ?_, a3, a4, a5, z, w, Or.inl ⟨rfl, rfl⟩, a6⟩
      · rw [← a1]
        have : fX11_settle_14 N (nN + 1) 0 e (some e) 0 z = fX11_settle_54 N 0 e (some e) z := by
          show fX11_settle_14b N (fX11_settle_14 N nN) 0 e (some e) 0 z = _
          unfold fX11_settle_14b
          rw [if_neg (by decide), zd_e, r17, zl_e, zd_e, if_pos c4]
        rw [← hNN] at this; exact this
      · rw [← a2]
        obtain ⟨R2, q1, q2, q3, q4, q5⟩ := zp_room (N := N) hE.2.2.1
        have rv : rvM (alC (armB z e) e (Int32.ofNat n + zgI w 14 35 e) w) e ≤ 0 := by
          have : rvM w e = zgI z 4 3 e := by
            have q := (zm_rv w e N).symm.trans q4
            rw [q2]; exact (Prod.mk.inj (Option.some.inj q)).1
          rw [← this] at c4
          have t : rvM (alC (armB z e) e (Int32.ofNat n + zgI w 14 35 e) w) e = rvM w e := by
            unfold rvM
            rw [alC_I (by omega), alC_I (by omega), alC_I (by omega), alC_I (by omega)]
          rw [t]; exact c4
        have : fX19_doorTurn_118 N (nN + 1) 0 e e (alC (armB z e) e (Int32.ofNat n + zgI w 14 35 e) w) = fX19_doorTurn_152 N 0 e e (alC (armB z e) e (Int32.ofNat n + zgI w 14 35 e) w) := by
          show fX19_doorTurn_118b N (fX19_doorTurn_118 N nN) 0 e e _ = _
          unfold fX19_doorTurn_118b
          rw [alC_I (by omega), if_neg c13, zm_rv, zc_e, if_pos rv]
        rw [← hNN] at this; exact this
    · obtain ⟨nn, b, p, R0, ⟨s1, s2, s3, s4, s5, s6⟩, s7, s8, s9, s10, s11, s12⟩ := hS c8 c4
      obtain ⟨z1, w1, d1, d2, d3, d4, d5, d6, dP, C, M⟩ := zp_drain (N := N) (a := armB z e) (t := Int32.ofNat n + zgI w 14 35 e) s1 s2 (by omega) R0 z w 0 N N p s5 (by omega) (by omega) (by omega) hE r17 r12 s3 s4 s7 s8 s9 s10 s11 s12 y9 c13
      have V1 : zMV w1 T E g K [] [] TA (zTB w1 T) := by
        rw [zTB_cg (fun j u hj => M.1 14 j u (by omega) (by omega) (by omega))]; exact zMV_dr p2 M
      have hRd1 : zRd z1 w1 e := by
        refine ⟨d6, Or.inr (Or.inr ?_)⟩
        have g2 : ∀ j, ¬ (j = 9 ∨ j = 10 ∨ j = 11) → zgI z1 2 j e = zgI z 2 j e := fun j q => C.1 2 j e (by omega) (by omega)
        have g13 : ∀ j, ¬ j = 9 → zgI w1 13 j e = zgI w 13 j e := fun j q => M.1 13 j e (by omega) (by omega) (by omega)
        have g14 : ∀ j, j = 2 ∨ j = 3 ∨ j = 4 → zgI w1 14 j e = zgI w 14 j e := fun j q => M.1 14 j e (by omega) (by omega) (by omega)
        rw [g2 0 (by omega), g2 1 (by omega), g2 2 (by omega), g2 3 (by omega), g2 5 (by omega), g2 6 (by omega), g2 7 (by omega), g2 8 (by omega), g13 0 (by omega), g13 3 (by omega), g13 5 (by omega), g13 6 (by omega), g13 7 (by omega), g13 8 (by omega), g14 2 (by omega), g14 3 (by omega), g14 4 (by omega)]
        exact ⟨x1, x2, x3, x4, x5, x6, x7, x8, x9, x10, d3.1, d3.2.1, d3.2.2.1, d3.2.2.2.1, d3.2.2.2.2⟩
      have P1 := zIp_dk hp (zDk_dr C) (zDm_dr M) V1 (fun _ => hRd1)
      obtain ⟨z', w', g', a1, a2, a3, a4, a5, a6⟩ := zp_settled (N := N) P1 (fun u hu => by rw [M.1 14 44 u (by omega) (by omega) (by omega), M.1 14 45 u (by omega) (by omega) (by omega)]; exact hI u hu) he hn ((C.1 2 0 e (by omega) (by omega)).trans u0) ((C.2.2.2.2 3 16 e).trans r16) ((C.2.2.2.2 3 17 e).trans r17) ((C.2.2.2.2 3 18 e).trans r18) ((M.2.2.2.2 13 4 e).trans r134) ((C.1 11 4 0 (by omega) (by omega)).trans tc) ((M.1 19 24 0 (by omega) (by omega) (by omega)).trans tm)
      have ab : armB z1 e = armB z e := armB_cg (C.1 10 0 e (by omega) (by omega)) (C.1 3 0 e (by omega) (by omega)) (fun j => C.1 6 j e (by omega) (by omega))
      have t35 : zgI w1 14 35 e = zgI w 14 35 e := by
        rw [← d3.2.2.2.1.2.2.1, ← hE.2.2.2.1.2.2.1]
        exact C.1 10 2 e (by omega) (by omega)
      rw [ab, t35] at a2
      exact ⟨z', w', g', d1.trans a1, d2.trans a2, a3, a4, a5, z1, w1, Or.inr ⟨nn, b, p, R0, ⟨s1, s2, s3, s4, s5, s6⟩, s7, s8, s9, d4, d5, dP, C, M⟩, a6⟩
