/-! ends, the model: the books of an end when an OPEN comes -/
def zBe (e : Nat) (w w' : St) : Prop := (∀ k j o, ¬ (k = 14 ∧ o = e ∧ ¬ (j = 2 ∨ j = 3 ∨ j = 4)) → ¬ (k = 19 ∧ j = 17) → zgI w' k j o = zgI w k j o) ∧ (∀ k o i, ¬ ((k = 159 ∨ k = 160 ∨ k = 161) ∧ o = e) → ¬ (182 ≤ k ∧ k ≤ 185) → zgA w' k o i = zgA w k o i) ∧ (∀ k o i, ¬ k = 181 → zgL w' k o i = zgL w k o i) ∧ (∀ k o i, zgQ w' k o i = zgQ w k o i) ∧ ∀ k o i, zgR w' k o i = zgR w k o i
theorem zBe_rf (e : Nat) (w : St) : zBe e w w := ⟨fun _ _ _ _ _ => rfl, fun _ _ _ _ _ => rfl, fun _ _ _ _ => rfl, fun _ _ _ => rfl, fun _ _ _ => rfl⟩
theorem zBe_tr {e : Nat} {x y z : St} (h1 : zBe e x y) (h2 : zBe e y z) : zBe e x z := ⟨fun k j o a b => (h2.1 k j o a b).trans (h1.1 k j o a b), fun k o i a b => (h2.2.1 k o i a b).trans (h1.2.1 k o i a b), fun k o i a => (h2.2.2.1 k o i a).trans (h1.2.2.1 k o i a), fun k o i => (h2.2.2.2.1 k o i).trans (h1.2.2.2.1 k o i), fun k o i => (h2.2.2.2.2 k o i).trans (h1.2.2.2.2 k o i)⟩
theorem zBe_em {e : Nat} {w w' : St} (h : zEm1 e w w') : zBe e w w' := ⟨fun k j o a _ => h.1 k j o (fun y => a ⟨y.1, y.2.1, fun q => y.2.2 (by omega)⟩), fun k o i a _ => h.2.1 k o i a, fun k o i _ => h.2.2.1 k o i, h.2.2.2.1, h.2.2.2.2⟩
theorem zBe_bf {e : Nat} {w w' : St} (h : zBe e w w') : zBf w w' := ⟨fun k j o a b => h.1 k j o (fun y => a y.1) b, fun k o i a b => h.2.1 k o i (by omega) b, h.2.2.1, h.2.2.2.1, h.2.2.2.2⟩
theorem zBe_I {e j : Nat} {w : St} {v : Int32} (hj : ¬ (j = 2 ∨ j = 3 ∨ j = 4) := by omega) : zBe e w (zsI w 14 j e v) := ⟨fun k' j' o n _ => by rw [zgI_sI, if_neg (fun y => n ⟨y.1, y.2.2, by rw [y.2.1]; exact hj⟩)], fun _ _ _ _ _ => rfl, fun _ _ _ _ => rfl, fun _ _ _ => rfl, fun _ _ _ => rfl⟩
/-- an end of a host -/
def hEnd (T : Tp) (e : Nat) : Prop := e < 96 ∧ e / 6 < tb T ∧ tr T (e / 6) = false
def zMB (w : St) (T : Tp) (E : Ev) (g : Sg) (K : Int32 → Int32 → Int32 → Prop) (X TS TA : List Nat) : Prop := zMV w T E g K X TS TA (zTB w T) ∧ ∀ e, hEnd T e → zIx (zgI w 14 44 e) 2592 ∧ zIx (zgI w 14 45 e) 2592
theorem zMB_em {w w' : St} {T : Tp} {E : Ev} {g : Sg} {K : Int32 → Int32 → Int32 → Prop} {X TS TA : List Nat} {e : Nat} (h : zMB w T E g K X TS TA) (f : zEm1 e w w') : zMB w' T E g K X TS TA := by
  have s : ∀ j u, j = 44 ∨ j = 45 → zgI w' 14 j u = zgI w 14 j u := fun j u hj => f.1 14 j u (by omega)
  refine ⟨?_, fun u hu => by rw [s 44 u (by simp), s 45 u (by simp)]; exact h.2 u hu⟩
  rw [zTB_cg s]
  exact zMV_em h.1 f
theorem zBf_i14 {e j : Nat} {w : St} {v : Int32} : zBf w (zsI w 14 j e v) := ⟨fun k' j' o n _ => by rw [zgI_sI, if_neg (fun y => n y.1)], fun _ _ _ _ _ => rfl, fun _ _ _ _ => rfl, fun _ _ _ => rfl, fun _ _ _ => rfl⟩
theorem zMV_i14 {w : St} {T : Tp} {E : Ev} {K : Int32 → Int32 → Int32 → Prop} {g : Sg} {X TS TA TB : List Nat} {e j : Nat} {v : Int32} (h : zMV w T E g K X TS TA TB) : zMV (zsI w 14 j e v) T E g K X TS TA TB :=
  zMV_TB h zBf_i14 (zNm_TB h.2.2.2.2.1.2.2 zBf_i14 (fun H hM => by
    have c : zgI (zsI w 14 j e v) 19 17 0 = zgI w 19 17 0 := by rw [zgI_sI, if_neg (by omega)]
    rw [c]; exact hM.2.2.2.2.1) (zMV_len h))
def bkt (N e : Nat) (s : Int32) (w1 : St) : Option (Int32 × St) := zc (fX19_dropBook N 0 (zgI w1 14 45 e) w1) fun _ z3 => zl (zsI z3 14 45 e (-1 : Int32)) fun z6 => zl (zsI z6 14 46 e (0 : Int32)) fun z7 => zc (fX19_seg N 0 s (8 : Int32) z7) fun r8 z9 => if r8 = (-1 : Int32) then (some (0, z9)) else (zk r8 2592 <| if (zgA z9 183 0 (Int32.toNatClampNeg r8)) ≤ 0 then (some (0, z9)) else (zk r8 2592 <| zc (fX19_seg N 0 s (9 : Int32) z9) fun r16 z17 => if ¬ (zgA z9 184 0 (Int32.toNatClampNeg r8)) = r16 then (some (0, z17)) else (zl (zsI z17 14 45 e r8) fun z21 => zk r8 2592 <| zk r8 2592 <| zl (zsA z21 183 0 (Int32.toNatClampNeg r8) ((zgA z21 183 0 (Int32.toNatClampNeg r8)) + (1 : Int32))) fun z24 => some (0, z24))))
theorem bkt_e (N e : Nat) (s : Int32) (v : Int32) (w : St) : fX19_takeOpen_113 N 0 e s e v w = bkt N e s (zsI w 14 13 e v) := by
  unfold fX19_takeOpen_113 bkt
  rw [zl_e]
theorem bk1_o {b : Nat} (hb : b < 2592) : bk1 (Int32.ofNat b) = [b] := by
  unfold bk1
  rw [if_neg (zo_ne1 (by omega)), zoC (by omega)]
theorem bk1_n : bk1 (-1) = [] := if_pos rfl
theorem zm_bkt {w : St} {T : Tp} {E : Ev} {g : Sg} {K : Int32 → Int32 → Int32 → Prop} {X TS TA : List Nat} {e s N : Nat} (h : zMB w T E g K X TS TA) (he : hEnd T e) (hs : s < 2400) (hix : zIx (msg w s 8) 2592) (hl : TS.length + TA.length ≤ 4000) :
    ∃ w', bkt N e (Int32.ofNat s) w = some (0, w') ∧ zMB w' T E g K X TS TA ∧ (∀ j, ¬ (j = 45 ∨ j = 46) → zgI w' 14 j e = zgI w 14 j e) ∧ (∀ k u i, ¬ (k = 183 ∨ k = 185) → zgA w' k u i = zgA w k u i) ∧ (∀ k u i, zgL w' k u i = zgL w k u i) ∧ zBe e w w' := by
  obtain ⟨hM, hI⟩ := h
  obtain ⟨R, pR, lR, uR⟩ := zTB_at (w := w) he.1 he.2
  have i44 := (hI e he).1
  -- the old book that was read goes
  obtain ⟨w2, d1, d2, d3, d4, d5, d6⟩ : ∃ w2, fX19_dropBook N 0 (zgI w 14 45 e) w = some (0, w2) ∧ zMV w2 T E g K X TS TA (bk1 (zgI w 14 44 e) ++ R) ∧ (∀ k u i, ¬ (k = 183 ∨ k = 185) → zgA w2 k u i = zgA w k u i) ∧ (∀ k j o, ¬ (k = 19 ∧ j = 17) → zgI w2 k j o = zgI w k j o) ∧ (∀ k u i, zgL w2 k u i = zgL w k u i) ∧ zBe e w w2 := by
    have hM2 := zMV_permTB pR hM
    unfold bk2 at hM2
    rcases (hI e he).2 with c | ⟨b, hb, c⟩
    · refine ⟨w, ?_, ?_, fun _ _ _ _ => rfl, fun _ _ _ _ => rfl, fun _ _ _ => rfl, zBe_rf e w⟩
      · unfold fX19_dropBook; rw [c, if_pos rfl]
      · rw [c, bk1_n, List.append_nil] at hM2; exact hM2
    · rw [c, bk1_o hb, List.append_assoc] at hM2
      have hM3 := zMV_permTB (show (bk1 (zgI w 14 44 e) ++ ([b] ++ R)).Perm (b :: (bk1 (zgI w 14 44 e) ++ R)) from List.perm_middle) hM2
      obtain ⟨w2, r1, r2, r3, r4, r5⟩ := zm_dropTB (N := N) hM3
      refine ⟨w2, by rw [c]; exact r1, r2, fun k u i q => r3 k u i (by omega) (by omega), r4, ?_, ⟨fun k j o _ b => r4 k j o b, fun k o i _ q => r3 k o i (by omega) (by omega), r5.2.2.1, r5.2.2.2.1, r5.2.2.2.2⟩⟩
      intro k u i
      obtain ⟨ms, mw, -, -, h9⟩ := hM3.2.2.2.2.1.2.2
      have ln : ∀ L : List Nat, (zbks w L ++ (bk1 (zgI w 14 44 e) ++ R)).length < 1000000 := fun L => by
        have := zbks_len w L
        have b1 : (bk1 (zgI w 14 44 e)).length ≤ 1 := by unfold bk1; split <;> simp
        rw [List.length_append, List.length_append]; omega
      obtain ⟨w3, s1, -, -, -, s5⟩ := zm_dropBook (N := N) (ln _) (zRc_perm (List.perm_middle) h9.2.2.2.2.1)
      rw [r1] at s1
      have : w2 = w3 := (congrArg Prod.snd (Option.some.inj s1))
      rw [this]; exact s5 k u i
  obtain ⟨w3, hw3⟩ : ∃ u, u = zsI (zsI w2 14 45 e (-1)) 14 46 e 0 := ⟨_, rfl⟩
  have M3 : zMV w3 T E g K X TS TA (bk1 (zgI w 14 44 e) ++ R) := by rw [hw3]; exact zMV_i14 (zMV_i14 d2)
  have I3 : ∀ k j o, ¬ (k = 14 ∧ (j = 45 ∨ j = 46) ∧ o = e) → ¬ (k = 19 ∧ j = 17) → zgI w3 k j o = zgI w k j o := fun k j o a b => by
    rw [hw3, zgI_sI, zgI_sI, if_neg (by omega), if_neg (by omega)]; exact d4 k j o b
  have i45 : zgI w3 14 45 e = -1 := by rw [hw3, zgI_sI, zgI_sI, if_neg (by omega), if_pos ⟨rfl, rfl, rfl⟩]
  have A3 : ∀ k u i, ¬ (k = 183 ∨ k = 185) → zgA w3 k u i = zgA w k u i := fun k u i q => by rw [hw3]; exact d3 k u i q
  have L3 : ∀ k u i, zgL w3 k u i = zgL w k u i := fun k u i => by rw [hw3]; exact d5 k u i
  have B3 : zBe e w w3 := by rw [hw3]; exact zBe_tr d6 (zBe_tr zBe_I zBe_I)
  have le4 : (bk1 (zgI w 14 44 e) ++ R).length ≤ 191 := by
    have b1 : (bk1 (zgI w 14 44 e)).length ≤ 1 := by unfold bk1; split <;> simp
    rw [List.length_append]; omega
  have hit : ∀ w', zMV w' T E g K X TS TA (bk1 (zgI w 14 44 e) ++ bk1 (zgI w' 14 45 e) ++ R) → zIx (zgI w' 14 45 e) 2592 → (∀ j u, ¬ (j = 45 ∨ j = 46) ∨ ¬ u = e → zgI w' 14 j u = zgI w 14 j u) → zMB w' T E g K X TS TA := fun w' hv hx hj => by
    refine ⟨?_, fun u hu => ?_⟩
    · have p := uR w' (fun j u _ q => hj j u (Or.inr q))
      unfold bk2 at p
      rw [hj 44 e (by omega)] at p
      exact zMV_permTB p.symm hv
    · by_cases c : u = e
      · subst c; rw [hj 44 u (by omega)]; exact ⟨i44, hx⟩
      · rw [hj 44 u (Or.inr c), hj 45 u (Or.inr c)]; exact hI u hu
  have hit3 : zMB w3 T E g K X TS TA := hit w3 (by rw [i45, bk1_n, List.append_nil]; exact M3) (by rw [i45]; exact Or.inl rfl) (fun j u q => I3 14 j u (by omega) (by omega))
  have run : bkt N e (Int32.ofNat s) w = (if msg w s 8 = (-1 : Int32) then (some (0, w3)) else (zk (msg w s 8) 2592 <| if (zgA w3 183 0 (Int32.toNatClampNeg (msg w s 8))) ≤ 0 then (some (0, w3)) else (zk (msg w s 8) 2592 <| zc (fX19_seg N 0 (Int32.ofNat s) (9 : Int32) w3) fun r16 z17 => if ¬ (zgA w3 184 0 (Int32.toNatClampNeg (msg w s 8))) = r16 then (some (0, z17)) else (zl (zsI z17 14 45 e (msg w s 8)) fun z21 => zk (msg w s 8) 2592 <| zk (msg w s 8) 2592 <| zl (zsA z21 183 0 (Int32.toNatClampNeg (msg w s 8)) ((zgA z21 183 0 (Int32.toNatClampNeg (msg w s 8))) + (1 : Int32))) fun z24 => some (0, z24))))) := by
    unfold bkt
    have q8 : fX19_seg N 0 (Int32.ofNat s) 8 w3 = some (msg w s 8, w3) := by
      have := zm_seg (w := w3) (N := N) hs (show 8 < 10 by omega)
      have e8 : msg w3 s 8 = msg w s 8 := A3 174 0 _ (by omega)
      rw [e8] at this
      exact this
    rw [d1, zc_e, zl_e, zl_e, ← hw3, q8, zc_e]
  rw [run]
  rcases hix with c | ⟨b, hb, c⟩
  · rw [if_pos c]
    exact ⟨w3, rfl, hit3, fun j q => I3 14 j e (by omega) (by omega), A3, L3, B3⟩
  · rw [c, if_neg (zo_ne1 (by omega)), zkk hb (by omega), zoC (by omega)]
    by_cases d : zgA w3 183 0 b ≤ 0
    · rw [if_pos d]
      exact ⟨w3, rfl, hit3, fun j q => I3 14 j e (by omega) (by omega), A3, L3, B3⟩
    · have q9 : fX19_seg N 0 (Int32.ofNat s) 9 w3 = some (msg w3 s 9, w3) := zm_seg (w := w3) (N := N) hs (show 9 < 10 by omega)
      rw [if_neg d, zkk hb (by omega), q9, zc_e]
      by_cases f : zgA w3 184 0 b = msg w3 s 9
      · rw [if_neg (fun y => y f), zl_e, zkk hb (by omega), zkk hb (by omega), zl_e]
        obtain ⟨w4, hw4⟩ : ∃ u, u = zsI w3 14 45 e (Int32.ofNat b) := ⟨_, rfl⟩
        rw [← hw4]
        have M4 : zMV w4 T E g K X TS TA (bk1 (zgI w 14 44 e) ++ R) := by rw [hw4]; exact zMV_i14 M3
        have h183 : zgA w4 183 0 b = zgA w3 183 0 b := by rw [hw4]; rfl
        obtain ⟨M5, B5⟩ := zm_holdTB M4 hb (by rw [h183]; exact d) (by omega)
        have j45 : zgI (zsA w4 183 0 b (zgA w4 183 0 b + 1)) 14 45 e = Int32.ofNat b := by
          show zgI w4 14 45 e = _
          rw [hw4, zgI_sI, if_pos ⟨rfl, rfl, rfl⟩]
        have J5 : ∀ k j u, ¬ (k = 14 ∧ (j = 45 ∨ j = 46) ∧ u = e) → ¬ (k = 19 ∧ j = 17) → zgI (zsA w4 183 0 b (zgA w4 183 0 b + 1)) k j u = zgI w k j u := fun k j u q q2 => by
          show zgI w4 k j u = _
          rw [hw4, zgI_sI, if_neg (by omega)]; exact I3 k j u q q2
        have A5 : ∀ k u i, ¬ (k = 183 ∨ k = 185) → zgA (zsA w4 183 0 b (zgA w4 183 0 b + 1)) k u i = zgA w k u i := fun k u i q => by
          rw [zgA_sA, if_neg (by omega), hw4]; exact A3 k u i q
        refine ⟨_, rfl, hit _ ?_ (by rw [j45]; exact Or.inr ⟨b, hb, rfl⟩) (fun j u q => J5 14 j u (by omega) (by omega)), fun j q => J5 14 j e (by omega) (by omega), A5, ?_, ?_⟩
        · rw [j45, bk1_o hb, List.append_assoc]
          exact zMV_permTB (List.perm_middle.symm) M5
        · intro k u i
          show zgL w4 k u i = _
          rw [hw4]; exact L3 k u i
        · refine zBe_tr B3 (zBe_tr (y := w4) (by rw [hw4]; exact zBe_I) ⟨fun _ _ _ _ _ => rfl, fun k o i _ q => by rw [zgA_sA, if_neg (by omega)], fun _ _ _ _ => rfl, fun _ _ _ => rfl, fun _ _ _ => rfl⟩)
      · rw [if_pos f]
        exact ⟨w3, rfl, hit3, fun j q => I3 14 j e (by omega) (by omega), A3, L3, B3⟩
