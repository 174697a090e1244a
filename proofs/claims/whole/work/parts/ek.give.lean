/-! a door is given a new end: the model -/
theorem zdB_L {N : Nat} {x r : Int32} {w w' : St} (h : fX19_dropBook N 0 x w = some (r, w')) : ∀ k o i, zgL w' k o i = zgL w k o i := by
  unfold fX19_dropBook zl at h
  split at h
  · cases h; exact fun _ _ _ => rfl
  · have h := zk_sm h
    have h := zk_sm h
    have h := zk_sm h
    split at h
    · cases h; exact fun _ _ _ => rfl
    · have h := zk_sm h
      cases h; exact fun _ _ _ => rfl
theorem zMV_em0 {w w' : St} {T : Tp} {E : Ev} {K : Int32 → Int32 → Int32 → Prop} {g : Sg} {X TS TA TB : List Nat} {e : Nat} (h : zMV w T E g K X TS TA TB) (f : zEm0 e w w') : zMV w' T E g K X TS TA TB := by
  obtain ⟨u, hu⟩ : ∃ u, u = zsI w' 14 46 e (zgI w 14 46 e) := ⟨_, rfl⟩
  have F : ∀ k j o, ¬ (k = 14 ∧ o = e ∧ ¬ (j = 2 ∨ j = 3 ∨ j = 4 ∨ j = 44 ∨ j = 45 ∨ j = 46)) → zgI u k j o = zgI w k j o := fun k j o q => by
    rw [hu, zgI_sI]
    by_cases b : k = 14 ∧ j = 46 ∧ o = e
    · rw [if_pos b, b.1, b.2.1, b.2.2]
    · rw [if_neg b]; exact f.1 k j o (by omega)
  have m : zEm1 e w u := ⟨F, fun k o i q => by rw [hu]; exact f.2.1 k o i q, fun k o i => by rw [hu]; exact f.2.2.1 k o i, fun k o i => by rw [hu]; exact f.2.2.2.1 k o i, fun k o i => by rw [hu]; exact f.2.2.2.2 k o i⟩
  have g1 : zFr 0x40000000000000000000000000000000000000000000000000000000000000000000000000000000000000000000000000000000000000000000000000000000000000000000000000000000000000000000000000000000000000000000000000000000000000000000000000000000000000000000 w' u := by rw [hu]; exact zFr_I (zFr_rf _ _) (by decide)
  exact zMV_fr (zFr_sym g1) (by decide) (fun k o i => by rw [hu]; rfl) (zMV_em h m)
theorem zMV_i13 {w : St} {T : Tp} {E : Ev} {K : Int32 → Int32 → Int32 → Prop} {g : Sg} {X TS TA TB : List Nat} {e j : Nat} {v : Int32} (hj : j = 3 ∨ j = 5 ∨ j = 6 ∨ j = 7 ∨ j = 8 ∨ j = 9 ∨ j = 0 ∨ j = 1 ∨ j = 2) (h : zMV w T E g K X TS TA TB) : zMV (zsI w 13 j e v) T E g K X TS TA TB := by
  have f : zFr 0x3ef0000000000000000000000000000000000000000000000000000000000000000000000000000000000000000000000000000000000000000000000000000000000000000000000000000000000000000000000000000000000000000000000000000000000000000 w (zsI w 13 j e v) := zFr_I (zFr_rf _ _) (by rcases hj with rfl | rfl | rfl | rfl | rfl | rfl | rfl | rfl | rfl <;> decide)
  exact zMV_fr f (by decide) (fun _ _ _ => rfl) h
/-- what the model's door and end are then -/
def gvM (own x q F L bk : Int32) (w : St) (e k j u : Nat) : Int32 :=
  if k = 13 ∧ u = e ∧ j = 3 then 1 else if k = 13 ∧ u = e ∧ j = 5 then -1 else if k = 13 ∧ u = e ∧ (j = 6 ∨ j = 7 ∨ j = 8) then 0 else if k = 13 ∧ u = e ∧ j = 9 then 1 else
  if k = 14 ∧ u = e ∧ j = 2 then own else if k = 14 ∧ u = e ∧ j = 3 then x else if k = 14 ∧ u = e ∧ j = 4 then q else if k = 14 ∧ u = e ∧ j = 44 then bk else if k = 14 ∧ u = e ∧ j = 45 then -1 else if k = 14 ∧ u = e ∧ j = 24 then 0 else bgM F L w e k j u
theorem zm_give {w : St} {T : Tp} {E : Ev} {g : Sg} {K : Int32 → Int32 → Int32 → Prop} {X TS TA : List Nat} {e b N : Nat} {own x q : Int32} (h : zMB w T E g K X TS TA) (he : hEnd T e) (hbe : e / 6 = b) (h0 : 0 < tp T b) (h4 : zgR w 13 4 e = some e) (hl : TS.length + TA.length ≤ 4000) (hN : 2048 < N) :
    ∃ w' bk, fX19_giveEnd N 0 b e own x q w = some (0, w') ∧ bk < 2592 ∧ zMB w' T E g K X TS TA ∧ (∀ k j u, ¬ (k = 19 ∧ j = 17) → zgI w' k j u = gvM own x q ((64000 : Int32) * Int32.ofNat (eN E) + (977 : Int32) * Int32.ofNat b) (Int32.ofNat (eL E (tq T b 0 / 8)) - (40 : Int32)) (Int32.ofNat bk) w e k j u) ∧ (∀ k u i, ¬ (182 ≤ k ∧ k ≤ 185) → zgA w' k u i = if k = 161 ∧ u = e ∧ i < 2048 then 0 else zgA w k u i) ∧ (zgA w' 182 0 bk = 0 ∧ zgA w' 184 0 bk = zgA w 184 0 bk + 1 ∧ ∀ c, ¬ c = bk → zgA w' 182 0 c = zgA w 182 0 c ∧ zgA w' 184 0 c = zgA w 184 0 c) ∧ (∀ k u i, zgL w' k u i = zgL w k u i) ∧ (∀ k u i, zgR w' k u i = zgR w k u i) ∧ (∀ k u i, zgQ w' k u i = zgQ w k u i) ∧ (∃ R : List Nat, (zTB w T).Perm (bk2 w e ++ R) ∧ bk ∉ R ∧ (zTB w' T).Perm (bk :: R)) := by
  obtain ⟨hM, hI⟩ := h
  obtain ⟨hT, hc, hE, hw, -⟩ := id hM
  obtain ⟨he1, he2, he3⟩ := id he
  rw [hbe] at he2 he3
  obtain ⟨R, pR, lR, uR⟩ := zTB_at (w := w) he.1 he.2
  obtain ⟨i44, i45⟩ := hI e he
  have hq := tv_q hc he2 h0
  obtain ⟨-, b0, -, -, b4⟩ := hT.2.1.2 b he2
  obtain ⟨-, p2, -, -⟩ := hT.2.2.2 _ hq
  have hL := (hE.2 _ hq.1).1
  obtain ⟨w1, a1, a2, a3, a4⟩ := zm_begin w (e := e) (N := N) ((64000 : Int32) * Int32.ofNat (eN E) + (977 : Int32) * Int32.ofNat b) (Int32.ofNat (eL E (tq T b 0 / 8)) - (40 : Int32)) hN
  obtain ⟨w2, hw2⟩ : ∃ u, u = zsI w1 14 24 e 0 := ⟨_, rfl⟩
  have M2 : zMV w2 T E g K X TS TA (zTB w T) := by rw [hw2]; exact zMV_i14 (zMV_em0 hM a4)
  have I2 : ∀ k j u, zgI w2 k j u = if k = 14 ∧ j = 24 ∧ u = e then 0 else bgM ((64000 : Int32) * Int32.ofNat (eN E) + (977 : Int32) * Int32.ofNat b) (Int32.ofNat (eL E (tq T b 0 / 8)) - (40 : Int32)) w e k j u := fun k j u => by rw [hw2, zgI_sI]; split <;> first | rfl | exact a2 k j u
  have bo : ∀ k j u, ¬ (k = 14 ∧ u = e ∧ (j ≤ 1 ∨ (5 ≤ j ∧ j ≤ 9) ∨ (11 ≤ j ∧ j ≤ 46)) ∧ ¬ j = 44 ∧ ¬ j = 45) → bgM ((64000 : Int32) * Int32.ofNat (eN E) + (977 : Int32) * Int32.ofNat b) (Int32.ofNat (eL E (tq T b 0 / 8)) - (40 : Int32)) w e k j u = zgI w k j u := fun k j u n => by
    unfold bgM
    rw [if_neg (by omega), if_neg (by omega), if_neg (by omega), if_neg (by omega), if_neg (by omega)]
  have M2' : zMV w2 T E g K X TS TA (bk1 (zgI w 14 44 e) ++ (bk1 (zgI w 14 45 e) ++ R)) := by
    have := zMV_permTB pR M2
    unfold bk2 at this
    rw [List.append_assoc] at this; exact this
  obtain ⟨w3, c1, c2, c3, c4, c5⟩ := zm_drop1 (N := N) i44 M2'
  have cF := wX19_dropBook (Nat.and_self _) (zFr_rf _ _) _ _ c1
  obtain ⟨w4, d1, d2, d3, d4, d5⟩ := zm_drop1 (N := N) i45 c2
  have dF := wX19_dropBook (Nat.and_self _) (zFr_rf _ _) _ _ d1
  obtain ⟨w5, bk, f1, f2, f3, f4, f5, f6, f7, f8, f9, f10⟩ := zm_newTB (N := N) d2 (by omega) hl
  have L3 : ∀ k u i, zgL w3 k u i = zgL w k u i := fun k u i => by
    have : zgL w2 k u i = zgL w k u i := by rw [hw2]; exact a4.2.2.1 k u i
    rw [← this]
    exact zdB_L c1 k u i
  have L4 : ∀ k u i, zgL w4 k u i = zgL w k u i := fun k u i => (zdB_L d1 k u i).trans (L3 k u i)
  have Q2 : ∀ k u i, zgQ w2 k u i = zgQ w k u i := fun k u i => by rw [hw2]; exact a4.2.2.2.1 k u i
  have R2 : ∀ k u i, zgR w2 k u i = zgR w k u i := fun k u i => by rw [hw2]; exact a4.2.2.2.2 k u i
  have Q5 : ∀ k u i, zgQ w5 k u i = zgQ w k u i := fun k u i => (f8.2.2.2.1 k u i).trans (((zdB_QR d1).1 k u i).trans (((zdB_QR c1).1 k u i).trans (Q2 k u i)))
  have R5 : ∀ k u i, zgR w5 k u i = zgR w k u i := fun k u i => (f8.2.2.2.2 k u i).trans ((d5 k u i).trans ((c5 k u i).trans (R2 k u i)))
  have I5 : ∀ k j u, ¬ (k = 19 ∧ j = 17) → zgI w5 k j u = zgI w2 k j u := fun k j u n => (f7 k j u n).trans ((d4 k j u n).trans (c4 k j u n))
  have A2 : ∀ k u i, zgA w2 k u i = if k = 161 ∧ u = e ∧ i < 2048 then 0 else zgA w k u i := fun k u i => by rw [hw2]; exact a3 k u i
  have A5 : ∀ k u i, ¬ (182 ≤ k ∧ k ≤ 185) → zgA w5 k u i = if k = 161 ∧ u = e ∧ i < 2048 then 0 else zgA w k u i := fun k u i n => by
    rw [f4 k u i (by omega), d3 k u i (by omega) (by omega), c3 k u i (by omega) (by omega), A2]
  have A4 : ∀ k i, k = 182 ∨ k = 184 → zgA w4 k 0 i = zgA w k 0 i := fun k i hk => by
    rw [d3 k 0 i (by omega) (by omega), c3 k 0 i (by omega) (by omega), A2, if_neg (by omega)]
  obtain ⟨w6, hw6⟩ : ∃ u, u = zsI (zsI w5 14 44 e (Int32.ofNat bk)) 14 45 e (-1) := ⟨_, rfl⟩
  obtain ⟨w7, hw7⟩ : ∃ u, u = zsI (zsI (zsI (zsI (zsI (zsI (zsI (zsI (zsI w6 14 2 e own) 14 3 e x) 14 4 e q) 13 3 e 1) 13 5 e (-1)) 13 6 e 0) 13 7 e 0) 13 8 e 0) 13 9 e 1 := ⟨_, rfl⟩
  have M7 : zMV w7 T E g K X TS TA (bk :: R) := by
    rw [hw7, hw6]
    exact zMV_i13 (by simp) (zMV_i13 (by simp) (zMV_i13 (by simp) (zMV_i13 (by simp) (zMV_i13 (by simp) (zMV_i13 (by simp) (zMV_i14 (zMV_i14 (zMV_i14 (zMV_i14 (zMV_i14 f3))))))))))
  have I7 : ∀ k j u, ¬ (k = 19 ∧ j = 17) → zgI w7 k j u = gvM own x q ((64000 : Int32) * Int32.ofNat (eN E) + (977 : Int32) * Int32.ofNat b) (Int32.ofNat (eL E (tq T b 0 / 8)) - (40 : Int32)) (Int32.ofNat bk) w e k j u := fun k j u n => by
    rw [hw7, hw6]
    simp only [zgI_sI]
    unfold gvM
    rw [I5 k j u n, I2]
    by_cases k3 : k = 13 ∧ u = e
    · obtain ⟨rfl, rfl⟩ := k3
      by_cases j9 : j = 9
      · subst j9; simp
      by_cases j8 : j = 8
      · subst j8; simp
      by_cases j7 : j = 7
      · subst j7; simp
      by_cases j6 : j = 6
      · subst j6; simp
      by_cases j5 : j = 5
      · subst j5; simp
      by_cases j3 : j = 3
      · subst j3; simp
      simp [j9, j8, j7, j6, j5, j3]
    · by_cases k4 : k = 14 ∧ u = e
      · obtain ⟨rfl, rfl⟩ := k4
        by_cases j4 : j = 4
        · subst j4; simp
        by_cases j3 : j = 3
        · subst j3; simp
        by_cases j2 : j = 2
        · subst j2; simp
        by_cases j45 : j = 45
        · subst j45; simp
        by_cases j44 : j = 44
        · subst j44; simp
        by_cases j24 : j = 24
        · subst j24; simp
        simp [j4, j3, j2, j45, j44, j24]
      · rw [if_neg (by omega), if_neg (by omega), if_neg (by omega), if_neg (by omega), if_neg (by omega), if_neg (by omega), if_neg (by omega), if_neg (by omega), if_neg (by omega), if_neg (by omega), if_neg (by omega), if_neg (by omega)]
        rw [if_neg (by omega), if_neg (by omega), if_neg (by omega), if_neg (by omega), if_neg (by omega), if_neg (by omega), if_neg (by omega), if_neg (by omega), if_neg (by omega), if_neg (by omega)]
  have n44 : zgI w7 14 44 e = Int32.ofNat bk := by rw [I7 14 44 e (by omega)]; unfold gvM; simp
  have n45 : zgI w7 14 45 e = -1 := by rw [I7 14 45 e (by omega)]; unfold gvM; simp
  have o4 : ∀ j u, j = 44 ∨ j = 45 → ¬ u = e → zgI w7 14 j u = zgI w 14 j u := fun j u hj hu => by
    rw [I7 14 j u (by omega)]; unfold gvM
    rw [if_neg (by omega), if_neg (by omega), if_neg (by omega), if_neg (by omega), if_neg (by omega), if_neg (by omega), if_neg (by omega), if_neg (by omega), if_neg (by omega), if_neg (by omega)]
    exact bo 14 j u (by omega)
  have pT : (zTB w7 T).Perm (bk :: R) := by
    have p := uR w7 (fun j u hj q => o4 j u hj q)
    unfold bk2 at p
    rw [n44, n45, bk1_n, bk1_o f2] at p
    exact p
  refine ⟨w7, bk, ?_, f2, ⟨zMV_permTB pT.symm M7, fun u hu => ?_⟩, I7, ?_, ⟨?_, ?_, fun c hcc => ⟨?_, ?_⟩⟩, ?_, ?_, ?_, R, pR, ?_, pT⟩
  · unfold fX19_giveEnd
    have e19 : zgI w 19 24 0 = Int32.ofNat (eN E) := hE.1
    rw [h4, zl_e, zk_0 (by omega) (by omega), zl_e, show Int32.toNatClampNeg (0 : Int32) = 0 from rfl, b4 0 h0, zd_e, zl_e, p2, zd_e, zd_e, e19, b0, hL, a1, zc_e, ← hw2, zl_e]
    unfold fX19_newBooks
    have e44 : zgI w2 14 44 e = zgI w 14 44 e := by rw [I2, if_neg (by omega)]; exact bo 14 44 e (by omega)
    have e45 : zgI w3 14 45 e = zgI w 14 45 e := by rw [c4 14 45 e (by omega), I2, if_neg (by omega)]; exact bo 14 45 e (by omega)
    rw [e44, c1, zc_e, e45, d1, zc_e, f1, zc_e, zl_e, zl_e, ← hw6, zc_e, zl_e, zl_e, zl_e, zl_e, zl_e, zl_e, zl_e, zl_e, zl_e, ← hw7]
  · by_cases q : u = e
    · rw [q, n44, n45]; exact ⟨Or.inr ⟨bk, f2, rfl⟩, Or.inl rfl⟩
    · rw [o4 44 u (by simp) q, o4 45 u (by simp) q]; exact hI u hu
  · intro k u i n
    rw [hw7, hw6]; exact A5 k u i n
  · rw [hw7, hw6]; exact f5
  · rw [hw7, hw6]; exact f6.trans (by rw [A4 184 bk (by simp)])
  · rw [hw7, hw6]; exact (f4 182 0 c (by omega)).trans (A4 182 c (by simp))
  · rw [hw7, hw6]; exact (f4 184 0 c (by omega)).trans (A4 184 c (by simp))
  · intro k u i
    rw [hw7, hw6]; exact (f9 k u i).trans (L4 k u i)
  · intro k u i
    rw [hw7, hw6]; exact R5 k u i
  · intro k u i
    rw [hw7, hw6]; exact Q5 k u i
  · exact f10
