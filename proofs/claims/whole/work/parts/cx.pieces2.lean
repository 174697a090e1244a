/-! what comes in pieces: both sides -/
/-- frames of putting together -/
def zFp (b : Nat) (z z' w w' : St) : Prop := ((∀ k j o, ¬ (k = 7 ∧ 515 + 4 * b ≤ o ∧ o < 519 + 4 * b) → ¬ (k = 1 ∧ j = 9 ∧ o = b) → ¬ (k = 11 ∧ j = 5) → zgI z' k j o = zgI z k j o) ∧ (∀ k o i, ¬ (k = 125 ∧ 515 + 4 * b ≤ o ∧ o < 519 + 4 * b) → ¬ (k = 113 ∧ o = b ∧ i = 6) → ¬ ((k = 117 ∨ k = 118) ∧ o = b) → zgA z' k o i = zgA z k o i) ∧ (∀ k o i, ¬ (k = 116 ∧ b * 4 ≤ o ∧ o < b * 4 + 4) → zgL z' k o i = zgL z k o i)) ∧
  ((∀ k j o, ¬ (k = 12 ∧ (j = 11 ∨ j = 8) ∧ o = b) → ¬ (k = 17 ∧ j < 6 ∧ 4 * b ≤ o ∧ o < 4 * b + 4) → ¬ (k = 19 ∧ j = 27) → zgI w' k j o = zgI w k j o) ∧ (∀ k o i, ¬ (k = 166 ∧ 4 * b ≤ o ∧ o < 4 * b + 4) → zgA w' k o i = zgA w k o i) ∧ (∀ k o i, zgL w' k o i = zgL w k o i) ∧ (∀ k o j, ¬ (k = 148 ∧ o = b) → zgQ w' k o j = zgQ w k o j) ∧ (∀ k o i, zgR w' k o i = zgR w k o i))
theorem zTC_eq {z z' : St} {T : Tp} (gI : ∀ k j o, (k ≠ 7 ∧ ¬ (k = 1 ∧ j = 9) ∧ ¬ (k = 11 ∧ j = 5)) → zgI z' k j o = zgI z k j o) (gQ : ∀ k o i, zgQ z' k o i = zgQ z k o i) (gR : ∀ k j o, zgR z' k j o = zgR z k j o) (h : zTC z T) : zTC z' T := by
  unfold zTC
  simp (disch := decide) only [gI, gR, gQ]
  exact h
theorem zp_pieces {z w : St} {T : Tp} {E : Ev} {R : Rg} {K : Int32 → Int32 → Int32 → Prop} {b x d ord c0 N : Nat} {L : List Pe} {D D' : Dg} (hT : zTC z T) (hc : zTc T) (hb : b < tb T) (hE : zgI z 11 4 0 = Int32.ofNat (eN E)) (hnow : zgI w 19 24 0 = Int32.ofNat (eN E)) (h : zPp z w T E R b L ord) (ho : ord < 2147483647) (hx : x < 515) (hxc : zPC 11 z x D) (hP : zPd T R D) (hDm : zMD w T K d D') (hD' : ∀ j, ¬ j = 10 → D'.1 j = D.1 j) (hpart : dl D < dw D) (hS : zgI z 11 5 0 = Int32.ofNat c0) (hSm : zgI w 19 27 0 = Int32.ofNat c0) (hN : 192 < N) :
    ∃ z' w' L' ord' t, ((∃ u D1, 515 + 4 * b ≤ u ∧ u < 519 + 4 * b ∧ fX11_putTogether N 0 b x z = some (some u, z') ∧ fX19_get N 0 b (Int32.ofNat d) w = (zc (fX19_handle N 0 b (Int32.ofNat d) w') fun _ z13 => some (0, z13)) ∧ zPd T R D1 ∧ dSb D1 D = true ∧ (∀ j, j < 11 → j ≠ 8 → zgI z' 7 j u = (dFull D1).1 j) ∧ (∀ i, i < dw D → zgA z' 125 u i = D.2 i) ∧ 64 ≤ dw D ∧ (D1 = D ∨ ∃ e, e ∈ L ∧ peD e = dFull D1) ∧ zgI w' 12 8 b = zgI w 12 8 b + 1 ∧ zgA z' 113 b 6 = zgA z 113 b 6 + 1) ∨
      (fX11_putTogether N 0 b x z = some (none, z') ∧ fX19_get N 0 b (Int32.ofNat d) w = some (0, w') ∧ zgI w' 12 8 b = zgI w 12 8 b ∧ zgA z' 113 b 6 = zgA z 113 b 6)) ∧
      zPp z' w' T E R b L' ord' ∧ (ord' = ord ∨ ord' = ord + 1) ∧ (t = c0 ∨ t = eN E) ∧ zgI z' 11 5 0 = Int32.ofNat t ∧ zgI w' 19 27 0 = Int32.ofNat t ∧ zFp b z z' w w' ∧ ∀ e, e ∈ L' → (∃ e0, e0 ∈ L ∧ peD e = peD e0) ∨ peD e = dFull D := by
  obtain ⟨hC, hM, hO, hW⟩ := h
  have hDw := hP.1
  obtain ⟨⟨hd, d0, d1, d2, d3, -⟩, ⟨m5, m6, m7, m8, -, -⟩, -⟩ := id hDm
  have el : dl D' = dl D := by unfold dl; rw [hD' 6 (by decide)]
  have ew' : dw D' = dw D := by unfold dw; rw [hD' 7 (by decide)]
  rw [hD' 0 (by decide)] at d0
  rw [hD' 1 (by decide)] at d1
  rw [hD' 2 (by decide)] at d2
  rw [hD' 3 (by decide)] at d3
  rw [el, ew'] at m8
  have hm : ∀ j, j < 4 → md w d j = D.1 j := fun j hj => by
    obtain rfl | rfl | rfl | rfl : j = 0 ∨ j = 1 ∨ j = 2 ∨ j = 3 := by omega
    · exact d0
    · exact d1
    · exact d2
    · exact d3
  have m8' : md w d 8 = 1 := by rw [m8, decide_eq_true hpart]; rfl
  have dF3 : ∀ D1 : Dg, dSb (dFull D1) D = dSb D1 D := fun _ => rfl
  by_cases hit : ∃ e, e ∈ L ∧ dSb (peD e) D = true
  · obtain ⟨e, he, hde⟩ := hit
    obtain ⟨A, B, hAB⟩ := List.append_of_mem he
    subst hAB
    have un : ∀ e2, e2 ∈ A ++ B → dSb (peD e2) D = false := fun e2 h2 => by
      have := pw_ne hW h2
      rw [Bool.eq_false_iff] at this ⊢
      exact fun y => this (dSb_tr y hde)
    have hu : ∀ e2, e2 ∈ A ++ e :: B → dSb (peD e2) D = true → e2 = e := fun e2 h2 y => by
      rcases List.mem_append.mp h2 with q | q
      · have := un e2 (List.mem_append_left _ q); rw [y] at this; cases this
      · rcases List.mem_cons.mp q with q | q
        · exact q
        · have := un e2 (List.mem_append_right _ q); rw [y] at this; cases this
    have q1 := zc_putHit (N := N) hT hb hC (by omega) hxc hDw hpart he hde hu (by omega)
    have q2 := zm_getHit (N := N) hM hd hm m8' hde un hN
    have p4 := hC.1.2.1 e he
    obtain ⟨o1, ⟨D0, o2, o3⟩, -, o4⟩ := hO e he
    obtain ⟨z', w', r, ⟨f1, f2, f3⟩, ⟨g1, g2, g3, g4, g5⟩⟩ := zp_put51 (K := K) (N := N) hT hc hb ⟨hC, hM, hO, hW⟩ hx hxc hP hpart hDm hD' hde hN
    have fr : (∀ i, ¬ i = 6 → zgA z' 113 b i = zgA z 113 b i) → (∀ o i, o ≠ b → zgA z' 113 o i = zgA z 113 o i) → zFp b z z' w w' := fun k1 k2 => by
      refine ⟨⟨fun k j o _ _ _ => f1 k j o, fun k o i n1 n2 n3 => ?_, fun k o i n => f3 k o i (by omega)⟩, ⟨fun k j o n1 n2 n3 => g1 k j o (by omega) (by omega) n2, g2, g3, g4, g5⟩⟩
      by_cases c : k = 113
      · subst c
        by_cases cb : o = b
        · subst cb; exact k1 i (fun y => n2 ⟨rfl, rfl, y⟩)
        · exact k2 o i cb
      · exact f2 k o i (by omega) c (by omega)
    rcases r with ⟨r1, r2, r3, r4, r5, r64, r6, r7⟩ | ⟨r1, r2, r3, r4, r5⟩
    · refine ⟨z', w', A ++ B, ord, c0, Or.inl ⟨515 + 4 * b + pes e, D0, by omega, by omega, q1.trans r1, q2.trans r2, o2, ?_, ?_, r5, r64, Or.inr ⟨e, he, o3⟩, r6, by rw [r7, if_pos ⟨rfl, rfl⟩]⟩, r3, Or.inl rfl, Or.inl rfl, (f1 11 5 0).trans hS, (g1 19 27 0 (by omega) (by omega) (by omega)).trans hSm, fr (fun i hi => by rw [r7, if_neg (fun y => hi y.2)]) (fun o i ho => by rw [r7, if_neg (fun y => ho y.1)]), fun y hy => Or.inl ⟨y, ?_, rfl⟩⟩
      · rw [o3, dF3] at hde; exact hde
      · rw [← o3]; exact r4
      · rcases List.mem_append.mp hy with m | m
        · exact List.mem_append_left _ m
        · exact List.mem_append_right _ (List.mem_cons_of_mem _ m)
    · exact ⟨z', w', _, ord, c0, Or.inr ⟨q1.trans r1, q2.trans r2, r4, r5 b 6⟩, r3, Or.inl rfl, Or.inl rfl, (f1 11 5 0).trans hS, (g1 19 27 0 (by omega) (by omega) (by omega)).trans hSm, fr (fun i _ => r5 b i) (fun o i _ => r5 o i), fun y hy => Or.inl (by
        rcases List.mem_append.mp hy with m | m
        · exact ⟨y, List.mem_append_left _ m, rfl⟩
        · rcases List.mem_cons.mp m with m | m
          · exact ⟨e, List.mem_append_right _ List.mem_cons_self, by rw [m]; rfl⟩
          · exact ⟨y, List.mem_append_right _ (List.mem_cons_of_mem _ m), rfl⟩)⟩
  · have no : ∀ e, e ∈ L → dSb (peD e) D = false := fun e he => by
      rw [Bool.eq_false_iff]; exact fun y => hit ⟨e, he, y⟩
    have noA : L.any (fun e => dSb (peD e) D) = false := by
      rw [List.any_eq_false]
      intro e he y
      rw [no e he] at y; cases y
    obtain ⟨z1, s, s4, q1, q2, q3, q4, q5, q6, q7, q8⟩ := zc_putNew (N := N) hT hb hC ho hE hx hxc hDw hpart noA (by omega)
    obtain ⟨w1, p, p1, p2, v1, v2, v3, v4, v5, v6, v7, v8⟩ := zm_getNew (N := N) hM hd hm m8' no hnow hN
    have L1s : ∀ e, e ∈ (if L.length = 4 then L.tail else L) → e ∈ L := fun e he => by
      by_cases c : L.length = 4
      · rw [if_pos c] at he; exact List.mem_of_mem_tail he
      · rw [if_neg c] at he; exact he
    have L1p : (if L.length = 4 then L.tail else L).Pairwise (fun x y => dSb (peD x) (peD y) = false) := by
      by_cases c : L.length = 4
      · rw [if_pos c]
        cases L with
        | nil => exact List.Pairwise.nil
        | cons a L => exact (List.pairwise_cons.mp hW).2
      · rw [if_neg c]; exact hW
    obtain ⟨L1, hL1⟩ : ∃ u, u = (if L.length = 4 then L.tail else L) := ⟨_, rfl⟩
    rw [← hL1] at L1s L1p v1 v2 q2
    have hT1 : zTC z1 T := zTC_eq (fun k j o hk => q4 k j o (by omega) (by omega) (by omega)) q7 q8 hT
    have hPp1 : zPp z1 w1 T E R b (L1 ++ ((s, p), dFull D, eN E, fun _ => false) :: []) (ord + 1) := by
      refine ⟨q2 p (eN E) rfl, v2 s, fun e he => ?_, ?_⟩
      · rcases List.mem_append.mp he with y | y
        · exact hO e (L1s e y)
        · rw [List.mem_singleton.mp y]
          exact ⟨Nat.le_refl _, ⟨D, hP, rfl⟩, (fun hv => by cases hv), (fun v hv => by cases hv)⟩
      · refine List.pairwise_append.mpr ⟨L1p, List.pairwise_singleton _ _, fun x hx y hy => ?_⟩
        rw [List.mem_singleton.mp hy]
        exact no x (L1s x hx)
    have hxc1 : zPC 11 z1 x D := ⟨fun j hj h8 => (q4 7 j x (by omega) (by omega) (by omega)).trans (hxc.1 j hj h8), fun i hi => (q5 125 x i (by omega)).trans (hxc.2 i hi)⟩
    have mdw : ∀ k, md w1 d k = md w d k := fun k => v5 172 0 _ (by omega)
    have hD1 : zMD w1 T K d D' := zMD_cg (d := d) (D := D') hd (fun k _ => mdw k) (fun k i => v5 174 k i (by omega)) (fun k i => v6 175 k i) (fun k i => v5 178 k i (by omega)) rfl (fun _ _ => rfl) hDm
    have hs1 : dSb (peD ((((s, p), dFull D, eN E, fun _ => false) : Pe))) D = true := dSb_iff.mpr ⟨rfl, rfl, rfl, rfl⟩
    obtain ⟨z', w', r, ⟨f1, f2, f3⟩, ⟨g1, g2, g3, g4, g5⟩⟩ := zp_put51 (e := ((s, p), dFull D, eN E, fun _ => false)) (K := K) (N := N) hT1 hc hb hPp1 hx hxc1 hP hpart hD1 hD' hs1 hN
    have A13 : ∀ o i, zgA z1 113 o i = zgA z 113 o i := fun o i => q5 113 o i (by omega)
    have fr : (∀ i, ¬ i = 6 → zgA z' 113 b i = zgA z1 113 b i) → (∀ o i, o ≠ b → zgA z' 113 o i = zgA z1 113 o i) → zFp b z z' w w' := fun k1 k2 => by
      refine ⟨⟨fun k j o n1 n2 n3 => (f1 k j o).trans (q4 k j o (by omega) n2 n3), fun k o i n1 n2 n3 => ?_, fun k o i n => (f3 k o i (fun y => by have : pes ((((s, p), dFull D, eN E, fun _ => false) : Pe)) = s := rfl; omega)).trans (q6 k o i n)⟩, ⟨fun k j o n1 n2 n3 => (g1 k j o (by omega) (by omega) n2).trans (v4 k j o (by omega) n2 n3), fun k o i n => (g2 k o i n).trans (v5 k o i n), fun k o i => (g3 k o i).trans (v6 k o i), fun k o i n => (g4 k o i n).trans (v7 k o i n), fun k o i => (g5 k o i).trans (v8 k o i)⟩⟩
      by_cases c : k = 113
      · subst c
        by_cases cb : o = b
        · subst cb; exact (k1 i (fun y => n2 ⟨rfl, rfl, y⟩)).trans (A13 _ _)
        · exact (k2 o i cb).trans (A13 _ _)
      · have es : pes ((((s, p), dFull D, eN E, fun _ => false) : Pe)) = s := rfl
        exact (f2 k o i (by omega) c (by omega)).trans (q5 k o i (by omega))
    obtain ⟨t, ht⟩ : ∃ t, t = if L.length = 4 then eN E else c0 := ⟨_, rfl⟩
    have tt : t = c0 ∨ t = eN E := by
      rw [ht]; by_cases c : L.length = 4
      · rw [if_pos c]; exact Or.inr rfl
      · rw [if_neg c]; exact Or.inl rfl
    have S1 : zgI z1 11 5 0 = Int32.ofNat t := by
      rw [q3, hS, ht]; by_cases c : L.length = 4
      · rw [if_pos c, if_pos c]
      · rw [if_neg c, if_neg c]
    have S2 : zgI w1 19 27 0 = Int32.ofNat t := by
      rw [v3, hSm, ht]; by_cases c : L.length = 4
      · rw [if_pos c, if_pos c]
      · rw [if_neg c, if_neg c]
    have x8 : zgI w1 12 8 b = zgI w 12 8 b := v4 12 8 b (by omega) (by omega) (by omega)
    rcases r with ⟨r1, r2, r3, r4, r5, r64, r6, r7⟩ | ⟨r1, r2, r3, r4, r5⟩
    · refine ⟨z', w', L1 ++ [], ord + 1, t, Or.inl ⟨515 + 4 * b + s, D, by omega, by omega, q1.trans r1, v1.trans r2, hP, dSb_iff.mpr ⟨rfl, rfl, rfl, rfl⟩, r4, r5, r64, Or.inl rfl, r6.trans (by rw [x8]), by rw [r7, if_pos ⟨rfl, rfl⟩, A13]⟩, r3, Or.inr rfl, tt, (f1 11 5 0).trans S1, (g1 19 27 0 (by omega) (by omega) (by omega)).trans S2, fr (fun i hi => by rw [r7, if_neg (fun y => hi y.2)]) (fun o i ho => by rw [r7, if_neg (fun y => ho y.1)]), fun y hy => Or.inl ⟨y, L1s y (by rw [List.append_nil] at hy; exact hy), rfl⟩⟩
    · exact ⟨z', w', _, ord + 1, t, Or.inr ⟨q1.trans r1, v1.trans r2, r4.trans x8, (r5 b 6).trans (A13 b 6)⟩, r3, Or.inr rfl, tt, (f1 11 5 0).trans S1, (g1 19 27 0 (by omega) (by omega) (by omega)).trans S2, fr (fun i _ => r5 b i) (fun o i _ => r5 o i), fun y hy => by
        rcases List.mem_append.mp hy with m | m
        · exact Or.inl ⟨y, L1s y m, rfl⟩
        · rw [List.mem_singleton.mp m]; exact Or.inr rfl⟩
