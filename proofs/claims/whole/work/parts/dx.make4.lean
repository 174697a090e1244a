/-! probes, thanks, what is sent again: both sides -/
theorem zEe_ch {z z' w w' : St} {e : Nat} (hc : ∀ k j, k = 3 ∨ k = 4 ∨ k = 6 ∨ k = 10 → j < 64 → ¬ (k = 3 ∧ (j = 9 ∨ j = 11 ∨ j = 12 ∨ j = 13)) → ¬ (k = 10 ∧ j = 6) → zgI z' k j e = zgI z k j e) (A : ∀ k i, k = 120 ∨ k = 121 ∨ k = 124 → zgA z' k e i = zgA z k e i) (hm : ∀ j, ¬ (j = 28 ∨ j = 30 ∨ j = 31 ∨ j = 32 ∨ j = 37) → zgI w' 14 j e = zgI w 14 j e) (B : ∀ k i, k = 159 ∨ k = 160 ∨ k = 161 → zgA w' k e i = zgA w k e i) (h9 : zgI z' 3 9 e = zgI w' 14 28 e) (h11 : zgI z' 3 11 e = zgI w' 14 30 e) (h12 : zgI z' 3 12 e = zgI w' 14 31 e) (h13 : zgI z' 3 13 e = zgI w' 14 32 e) (h13b : zgI z' 3 13 e = 0 ∨ zgI z' 3 13 e = 1) (h6 : zgI z' 10 6 e = zgI w' 14 37 e) (h6b : zgI z' 10 6 e = 0 ∨ zgI z' 10 6 e = zgI z 10 6 e) (hq : zRqv (zgI z 3 0 e) (zgI w 14 17 e) (zgI z' 3 9 e) (zgI z' 3 11 e) (zgI z' 3 13 e) (zgI z 6 4 e) (zgI z 6 5 e) (zgI z 6 6 e) (zgI z 6 7 e) (zgI z 10 0 e) (zgI z 4 7 e)) (h : zEe z w e) : zEe z' w' e := by
  obtain ⟨hs, ho, hi, ⟨t0, t1, t2, t3, t4, t5, t6, t7, t8, tw⟩, hnn⟩ := h
  have c3 : ∀ j, j < 64 → ¬ (j = 9 ∨ j = 11 ∨ j = 12 ∨ j = 13) → zgI z' 3 j e = zgI z 3 j e := fun j q n => hc 3 j (by omega) q (by omega) (by omega)
  have c4 : ∀ j, j < 64 → zgI z' 4 j e = zgI z 4 j e := fun j q => hc 4 j (by omega) q (by omega) (by omega)
  have c6 : ∀ j, j < 64 → zgI z' 6 j e = zgI z 6 j e := fun j q => hc 6 j (by omega) q (by omega) (by omega)
  have c10 : ∀ j, j < 64 → ¬ j = 6 → zgI z' 10 j e = zgI z 10 j e := fun j q n => hc 10 j (by omega) q (by omega) (by omega)
  refine ⟨zRs_ch (fun j q n => c3 j q (by omega)) (fun j hj => hm j (by omega)) (by rw [c3 0 (by omega) (by omega), hm 0 (by omega)]; exact hs.1.1) (by rw [c3 0 (by omega) (by omega)]; exact id) h9 h11 h12 h13 h13b hs, zRo_cg c6 (fun i => A 124 i (by omega)) (fun j hj => hm j (by omega)) (fun i => B 159 i (by omega)) ho, zRi_cg c4 (fun k i hk => A k i (by omega)) (fun j hj => hm j (by omega)) (fun k i hk => B k i (by omega)) hi, ⟨?_, ?_, ?_, ?_, ?_, ?_, h6, ?_, ?_, ?_⟩, zRn_of (fun j hj => c3 j (by omega) (by omega)) (c6 11 (by omega)) ?_ ?_ (zRz_n hnn)⟩
  · rw [c10 0 (by omega) (by omega), hm 33 (by omega), hm 34 (by omega)]; exact t0
  · rw [c10 1 (by omega) (by omega), hm 36 (by omega)]; exact t1
  · rw [c10 2 (by omega) (by omega), hm 35 (by omega)]; exact t2
  · rw [c10 3 (by omega) (by omega), hm 41 (by omega)]; exact t3
  · rw [c10 4 (by omega) (by omega), hm 42 (by omega)]; exact t4
  · rw [c10 5 (by omega) (by omega), hm 40 (by omega)]; exact t5
  · rcases h6b with y | y
    · exact Or.inl y
    · rw [y]; exact t7
  · intro y
    rcases h6b with q | q
    · rw [q] at y; exact absurd y (by decide)
    · rw [c10 7 (by omega) (by omega), c10 8 (by omega) (by omega), hm 38 (by omega), hm 39 (by omega)]
      exact t8 (by rw [← q]; exact y)
  · rw [c10 2 (by omega) (by omega)]; exact tw
  · rw [c3 0 (by omega) (by omega), c6 6 (by omega), c6 4 (by omega)]; exact hnn.1
  · unfold zRq
    rw [c3 0 (by omega) (by omega), hm 17 (by omega), c6 4 (by omega), c6 5 (by omega), c6 6 (by omega), c6 7 (by omega), c10 0 (by omega) (by omega), c4 7 (by omega)]
    exact hq
/-- the outcome of an end's next segment -/
def zNx (z w : St) (T : Tp) (E : Ev) (g : Sg) (K : Int32 → Int32 → Int32 → Prop) (X TS TA : List Nat) (e b : Nat) (c m : Option (Int32 × St)) : Prop :=
  (∃ z' w', c = some (0, z') ∧ m = some (-1, w') ∧ zEe z' w' e ∧ zEc1 e z z' ∧ zEm1 e w w' ∧ zMsr z' e ≤ zMsr z e) ∨ ∃ z' w' s, c = some (1, z') ∧ m = some (Int32.ofNat s, w') ∧ zMade z w z' w' T E g K X TS TA e b s ∧ zMsr z' e < zMsr z e
theorem zMade_pre {z w z1 w1 z2 w2 : St} {T : Tp} {E : Ev} {g : Sg} {K : Int32 → Int32 → Int32 → Prop} {X TS TA : List Nat} {e b s : Nat} (c : zEc1 e z z1) (m : zEm1 e w w1) (mA : ∀ k o i, zgA w1 k o i = zgA w k o i) (h : zMade z1 w1 z2 w2 T E g K X TS TA e b s) : zMade z w z2 w2 T E g K X TS TA e b s := by
  obtain ⟨a0, a1, b1, b2, b3, b4, b5, b6⟩ := h
  exact ⟨a0, a1, b1, b2, b3, fun d D hd hD => b4 d D hd (zMD_bf (zBf_em m) hD), zEk_tr (zEk_c c) b5, zMdF_tr (zMdF_em m mA) b6⟩
theorem zp_thanksNow {z w : St} {T : Tp} {E : Ev} {g : Sg} {K : Int32 → Int32 → Int32 → Prop} {X TS TA : List Nat} {e b N : Nat} (h16 : zgR z 3 16 e = some e) (h17r : zgR z 3 17 e = some e) (hM : zMB w T E g K X TS TA) (hX : X.length ≤ 40) (hW : ∀ q, tv T q → (gW g q).length ≤ 16) (hTS : TS.length ≤ 100) (hl : TS.length + TA.length ≤ 4000) (h : zEe z w e) (hN : 1500 < N) : zNx z w T E g K X TS TA e b (fX3_makeNext_96 N e 0 z) (fX19_send_230 N 0 e w) := by
  have e13 : zgI z 3 13 e = zgI w 14 32 e := h.1.2.2.2.2.2.2.1
  unfold fX3_makeNext_96 fX19_send_230
  rw [← e13]
  by_cases c : zgI z 3 13 e = 0
  · rw [if_neg (fun y => y c), if_pos c]
    exact Or.inl ⟨z, w, rfl, rfl, h, zEc1_rf e z, zEm1_rf e w, Nat.le_refl _⟩
  · have h17 : zgI w 14 17 e = 1 := h.2.2.2.2.2.2.2.2.2.2.1 c
    obtain ⟨-, o, n, W, st, q, ⟨r1, r2, -⟩, -⟩ := h.2.1
    obtain ⟨z', w', s, a1, a2, a3, a4, -⟩ := zp_told (b := b) (N := N) (st := st) (f := 0) (m := 0) (num := zgI z 6 6 e) false h16 h17r r1 r2 (by omega) (by omega) (fun i hi => absurd hi (by omega)) h17 hM hX hW hTS hl h hN
    rw [if_pos c, if_neg c, h16, zl_e, zd_e, ← h.2.1.1.2.2.1]
    have a1 : fX3_makeBytes N e 0 (zgI z 6 6 e) 0 0 0 z = some (0, z') := a1
    have a2 : fX19_toldBy N 0 e 0 (zgI z 6 6 e) 0 w = some (Int32.ofNat s, w') := a2
    rw [a1, zc_e, a2, zc_e]
    refine Or.inr ⟨z', w', s, rfl, rfl, a3, ?_⟩
    unfold zMsr
    rw [a4 6 2 (by omega), a4 6 3 (by omega), a4 6 9 (by omega), a4 3 5 (by omega), a4 3 9 (by omega), a4 3 11 (by omega), a4 3 12 (by omega), a4 3 13 (by omega), if_neg (show ¬ (6 = 3 ∧ 2 = 13) by omega), if_neg (show ¬ (6 = 3 ∧ 3 = 13) by omega), if_neg (show ¬ (6 = 3 ∧ 9 = 13) by omega), if_neg (show ¬ (3 = 3 ∧ 5 = 13) by omega), if_neg (show ¬ (3 = 3 ∧ 9 = 13) by omega), if_neg (show ¬ (3 = 3 ∧ 11 = 13) by omega), if_neg (show ¬ (3 = 3 ∧ 12 = 13) by omega), if_pos (show (3 = 3 ∧ 13 = 13) from ⟨rfl, rfl⟩), zb1_n c, show zb1 (0 : Int32) = 0 from rfl]
    omega
theorem zp_probe {z w : St} {T : Tp} {E : Ev} {g : Sg} {K : Int32 → Int32 → Int32 → Prop} {X TS TA : List Nat} {e b n N : Nat} (hn : n ≤ 400000) (hT : zgI w 19 24 0 = Int32.ofNat n) (h16 : zgR z 3 16 e = some e) (h17r : zgR z 3 17 e = some e) (h18 : zgR z 3 18 e = some e) (hM : zMB w T E g K X TS TA) (hX : X.length ≤ 40) (hW : ∀ q, tv T q → (gW g q).length ≤ 16) (hTS : TS.length ≤ 100) (hl : TS.length + TA.length ≤ 4000) (h : zEe z w e) (h11 : zgI z 3 11 e = 0) (hN : 1500 < N) :
    zNx z w T E g K X TS TA e b (fX3_makeNext_78 N e 0 (Int32.ofNat n) z) (if (zgI w 14 31 e) = 0 then (fX19_send_230 N 0 e w) else (zl (zsI w 14 31 e (0 : Int32)) fun z10 => zc (fX14_hasNew N e z10) fun r11 z12 => if r11 = 0 then (fX19_send_230 N 0 e z12) else (zc (fX19_isBefore N (zgI z12 14 7 e) (zgI z12 14 8 e) z12) fun r16 z17 => if r16 = 0 then (fX19_send_187 N 0 e (0 : Int32) z17) else (fX19_send_187 N 0 e (1 : Int32) z17)))) := by
  have e12 : zgI z 3 12 e = zgI w 14 31 e := h.1.2.2.2.2.2.1
  unfold fX3_makeNext_78
  rw [← e12]
  by_cases c : zgI z 3 12 e = 0
  · rw [if_pos c, if_pos c]
    exact zp_thanksNow h16 h17r hM hX hW hTS hl h hN
  · rw [if_neg c, if_neg c, zl_e]
    unfold fX3_makeProbe
    rw [zl_e]
    obtain ⟨z1, hz1⟩ : ∃ y, y = zsI z 3 12 e 0 := ⟨_, rfl⟩
    obtain ⟨w1, hw1⟩ : ∃ y, y = zsI w 14 31 e 0 := ⟨_, rfl⟩
    rw [← hz1, ← hw1]
    have I : ∀ k j, ¬ (k = 3 ∧ j = 12) → zgI z1 k j e = zgI z k j e := fun k j q => by rw [hz1, zgI_sI, if_neg (by omega)]
    have J : ∀ j, ¬ j = 31 → zgI w1 14 j e = zgI w 14 j e := fun j q => by rw [hw1, zgI_sI, if_neg (by omega)]
    have ec : zEc1 e z z1 := by rw [hz1]; exact zEc1_I (by simp)
    have em : zEm1 e w w1 := by rw [hw1]; exact zEm1_I
    have mA : ∀ k o i, zgA w1 k o i = zgA w k o i := fun k o i => by rw [hw1]; rfl
    have mu1 : zMsr z1 e ≤ zMsr z e := by
      unfold zMsr
      have i12 : zgI z1 3 12 e = 0 := by rw [hz1, zgI_sI, if_pos ⟨rfl, rfl, rfl⟩]
      rw [I 6 2 (by omega), I 6 3 (by omega), I 6 9 (by omega), I 3 5 (by omega), I 3 9 (by omega), I 3 11 (by omega), I 3 13 (by omega), i12, show zb1 (0 : Int32) = 0 from rfl]
      omega
    have hh : zEe z1 w1 e := zEe_ch (z := z) (w := w) (fun k j _ _ q _ => I k j (by omega)) (fun k i _ => by rw [hz1]; rfl) (fun j q => J j (by omega)) (fun k i _ => by rw [hw1]; rfl) (by rw [I 3 9 (by omega), J 28 (by omega)]; exact h.1.2.2.1) (by rw [I 3 11 (by omega), J 30 (by omega)]; exact h.1.2.2.2.2.1) (by rw [hz1, hw1, zgI_sI, zgI_sI, if_pos ⟨rfl, rfl, rfl⟩, if_pos ⟨rfl, rfl, rfl⟩]) (by rw [I 3 13 (by omega), J 32 (by omega)]; exact h.1.2.2.2.2.2.2.1) (by rw [I 3 13 (by omega)]; exact h.1.2.2.2.2.2.2.2) (by rw [I 10 6 (by omega), J 37 (by omega)]; exact h.2.2.2.1.2.2.2.2.2.2.1) (Or.inr (I 10 6 (by omega))) (by rw [I 3 9 (by omega), I 3 11 (by omega), I 3 13 (by omega)]; exact h.2.2.2.2.2.2.2.2) h
    have r16 : zgR z1 3 16 e = some e := (ec.2.2.2.2 3 16 e).trans h16
    have r17 : zgR z1 3 17 e = some e := (ec.2.2.2.2 3 17 e).trans h17r
    have r18 : zgR z1 3 18 e = some e := (ec.2.2.2.2 3 18 e).trans h18
    have M1 : zMB w1 T E g K X TS TA := zMB_em hM em
    have mst : zgI w1 14 0 e = zgI z1 3 0 e := hh.1.1.1.symm
    have no : zNx z w T E g K X TS TA e b (fX3_makeNext_96 N e 0 z1) (fX19_send_230 N 0 e w1) := by
      rcases zp_thanksNow (b := b) (N := N) r16 r17 M1 hX hW hTS hl hh hN with ⟨z', w', a1, a2, a3, a4, a5, a6⟩ | ⟨z', w', s, a1, a2, a3, a4⟩
      · exact Or.inl ⟨z', w', a1, a2, a3, zEc1_tr ec a4, zEm1_tr em a5, Nat.le_trans a6 mu1⟩
      · exact Or.inr ⟨z', w', s, a1, a2, zMade_pre ec em mA a3, by omega⟩
    rw [zc_sendsNew, zc_e]
    by_cases k1 : stN (zgI z1 3 0 e) = true
    · have hb := stN_b hh.2.2.2.2 k1
      obtain ⟨v, v1, -, v3⟩ := zp_hasNew (N := N) hh.2.1 hb
      rw [mst, k1, Bool.true_and] at v3
      rw [k1, if_neg (show ¬ zbi true = 0 by decide), r16, zl_e, zd_e, v1, zc_e, v3, zc_e]
      cases vv : v
      · rw [if_neg (show ¬ ¬ zbi false = 0 by decide), zc_e, if_pos rfl, if_pos (show zbi false = 0 by decide)]
        exact no
      · rw [if_pos (show ¬ zbi true = 0 by decide), if_neg (show ¬ zbi true = 0 by decide), r16, zl_e, zd_e, zl_e, zd_e]
        obtain ⟨⟨f4, f5, f6, f8, f81, f11, -⟩, o, nn, W, st, B, L, S, hO, ⟨q1, q2, q3, q4, q5, q6, q7, q8, q9⟩, ⟨r1, r2, r3, r4, r5, r6, r7⟩, ar⟩ := zRo_iff.mp hh.2.1
        obtain ⟨B1, BL, SL, -, Bo, -, BS, -, SW⟩ := zOb_f hO q4
        have hst := of_decide_eq_true k1
        have nst : ¬ (zgI z1 3 0 e = 0 ∨ zgI z1 3 0 e = 1 ∨ zgI z1 3 0 e = 2 ∨ zgI z1 3 0 e = 3 ∨ zgI z1 3 0 e = 10 ∨ zgI z1 3 0 e = 11) := by
          intro y
          rcases hst with c | c | c | c | c <;> (rw [c] at y; exact absurd y (by decide))
        have f7 : ¬ zgI z1 6 7 e = 0 := hh.2.2.2.2.2.2.2.2.2.2.2.2.2.1 nst
        have o1 : 1 ≤ o := by
          refine Nat.pos_of_ne_zero (fun y => f7 ?_)
          rw [r5, y]; rfl
        have m7 : zgI w1 14 7 e = zgI z1 6 4 e + Int32.ofNat nn := f6.symm.trans q2
        have now1 : zgI w1 19 24 0 = Int32.ofNat n := (em.1 19 24 0 (by omega)).trans hT
        -- what is new
        have vE : S < L ∨ (zgI z1 6 8 e = 1 ∧ ¬ nn = W + 1) := by
          rw [vv] at v1
          unfold fX6_hasNew fX6_hasNew_25 at v1
          rw [r4, r3, r6] at v1
          by_cases c : S < L
          · exact Or.inl c
          · rw [if_neg (by rw [zo_lt (by omega) (by omega)]; exact c)] at v1
            right
            rcases f81 with d | d
            · rw [if_pos d] at v1
              have := congrArg (fun x : Option (Int32 × St) => x.map Prod.fst) v1
              exact absurd (show (0 : Int32) = 1 from Option.some.inj this) (by decide)
            · refine ⟨d, fun f => ?_⟩
              rw [if_neg (by rw [d]; decide), decide_eq_true f, if_pos (show ¬ zbi true = 0 by decide)] at v1
              have := congrArg (fun x : Option (Int32 × St) => x.map Prod.fst) v1
              exact absurd (show (0 : Int32) = 1 from Option.some.inj this) (by decide)
        have nW : nn ≤ W := by
          rcases vE with t | t
          · refine Nat.not_lt.mp (fun y => ?_)
            have := SW (by omega)
            omega
          · omega
        have BS : B + S = nn := BS (by rw [Bo o1 (by omega)]; exact q6) nW
        rw [r4, r3, m7, q3, zm_bef w1 (show nn < 1073741824 by omega) (show W < 1073741824 by omega), zc_e]
        have c11 : zgI z1 3 11 e = 0 := (I 3 11 (by omega)).trans h11
        unfold fX3_makeProbe_46 fX3_makeProbe_58 fX19_send_187 fX19_send_199
        by_cases d : nn < W
        · obtain ⟨z', w', s, g1, g2', g3, g5⟩ := zp_goAhead (b := b) (N := N) (m := 1) false hn now1 r16 r17 r18 M1 hX hW hTS hl hh hst c11 hN hO q1 q2 q3 q4 q5 q6 q9 r1 r2 r4 ar (by omega) (by omega) (fun y => absurd y (by decide)) r3 r6 (Or.inl (by omega))
          have g1 : fX3_goAhead N e 0 1 0 (Int32.ofNat n) z1 = some (0, z') := g1
          rw [if_pos (show Int32.ofNat S < Int32.ofNat L from by rw [zo_lt (by omega) (by omega)]; omega), if_pos rfl, g1, zc_e, zc_e, if_neg (by decide), decide_eq_true d, if_neg (show ¬ zbi true = 0 by decide), if_pos (by decide)]
          exact Or.inr ⟨z', w', s, rfl, g2', zMade_pre ec em mA g3, by omega⟩
        · have nnW : nn = W := by omega
          have cl : zgI z1 6 8 e = 1 := by
            rcases vE with t | t
            · omega
            · exact t.1
          obtain ⟨z', w', s, g1, g2', g3, g5⟩ := zp_goAhead (b := b) (N := N) (m := 0) true hn now1 r16 r17 r18 M1 hX hW hTS hl hh hst c11 hN hO q1 q2 q3 q4 q5 q6 q9 r1 r2 r4 ar (by omega) (by omega) (fun _ => ⟨by omega, cl⟩) r3 r6 (Or.inr rfl)
          have g1 : fX3_goAhead N e 0 0 1 (Int32.ofNat n) z1 = some (0, z') := g1
          rw [if_neg (show ¬ Int32.ofNat S < Int32.ofNat L from by rw [zo_lt (by omega) (by omega)]; omega), if_neg (by decide), g1, zc_e, zc_e, if_neg (by decide), decide_eq_false d, if_pos (show zbi false = 0 by decide), if_neg (by decide)]
          exact Or.inr ⟨z', w', s, rfl, g2', zMade_pre ec em mA g3, by omega⟩
    · have k1' : stN (zgI z1 3 0 e) = false := by simpa using k1
      have hN0 : fX14_hasNew N e w1 = some (0, w1) := by
        unfold fX14_hasNew
        rw [zm_sendsNew, mst, k1', zc_e, if_pos (by rfl)]
      rw [k1', if_pos (show zbi false = 0 by decide), zc_e, if_pos rfl, hN0, zc_e, if_pos rfl]
      exact no
