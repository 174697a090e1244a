/-! a segment is made: both sides -/
def zMdF (e : Nat) (w w' : St) : Prop := (∀ k j o, ¬ (k = 14 ∧ o = e ∧ ¬ (j = 2 ∨ j = 3 ∨ j = 4 ∨ j = 44 ∨ j = 45 ∨ j = 46)) → ¬ (k = 19 ∧ j = 7) → zgI w' k j o = zgI w k j o) ∧ (∀ k o i, ¬ (k = 174 ∨ k = 176 ∨ k = 183) → zgA w' k o i = zgA w k o i) ∧ (∀ k o i, ¬ k = 175 → zgL w' k o i = zgL w k o i) ∧ (∀ k o i, zgQ w' k o i = zgQ w k o i) ∧ ∀ k o i, zgR w' k o i = zgR w k o i
theorem zMdF_tr {e : Nat} {x y z : St} (h1 : zMdF e x y) (h2 : zMdF e y z) : zMdF e x z := ⟨fun k j o a b => (h2.1 k j o a b).trans (h1.1 k j o a b), fun k o i a => (h2.2.1 k o i a).trans (h1.2.1 k o i a), fun k o i a => (h2.2.2.1 k o i a).trans (h1.2.2.1 k o i a), fun k o i => (h2.2.2.2.1 k o i).trans (h1.2.2.2.1 k o i), fun k o i => (h2.2.2.2.2 k o i).trans (h1.2.2.2.2 k o i)⟩
theorem zMdF_rf (e : Nat) (x : St) : zMdF e x x := ⟨fun _ _ _ _ _ => rfl, fun _ _ _ _ => rfl, fun _ _ _ _ => rfl, fun _ _ _ => rfl, fun _ _ _ => rfl⟩
theorem zMdF_I {e j : Nat} {w : St} {v : Int32} (hj : ¬ (j = 2 ∨ j = 3 ∨ j = 4 ∨ j = 44 ∨ j = 45 ∨ j = 46) := by omega) : zMdF e w (zsI w 14 j e v) := ⟨fun k' j' o n _ => by rw [zgI_sI, if_neg (fun y => n ⟨y.1, y.2.2, by rw [y.2.1]; exact hj⟩)], fun _ _ _ _ => rfl, fun _ _ _ _ => rfl, fun _ _ _ => rfl, fun _ _ _ => rfl⟩
/-- what is made, both sides: V; s the model's segment -/
def zMade (z w z' w' : St) (T : Tp) (E : Ev) (g : Sg) (K : Int32 → Int32 → Int32 → Prop) (X TS TA : List Nat) (e b s : Nat) : Prop := zEe z' w' e ∧ (∃ V : Sv, zMdC z' V ∧ zSgM w' s V ∧ (vgK V 1 = false → msg w' s 8 = -1) ∧ (vgK V 1 = true → msg w' s 8 = zgI w' 14 44 e ∧ msg w' s 9 = zgA w' 184 0 (zgI w' 14 44 e).toNatClampNeg)) ∧ zMB w' T E g K X (s :: TS) TA ∧ s ∉ TS ∧ zgA w' 176 0 s = 1 ∧ (∀ d D, d ∈ X → zMD w T K d D → zMD w' T K d D) ∧ zEk e b z z' ∧ zMdF e w w'
theorem zMB_len {w : St} {T : Tp} {E : Ev} {g : Sg} {K : Int32 → Int32 → Int32 → Prop} {X TS TA : List Nat} (h : zMB w T E g K X TS TA) : (zTB w T).length ≤ 192 := by
  have le : ∀ l : List Nat, (l.flatMap (bkE w T)).length ≤ 2 * l.length := by
    intro l
    induction l with
    | nil => simp
    | cons a l ih =>
      rw [List.flatMap_cons, List.length_append, List.length_cons]
      have : (bkE w T a).length ≤ 2 := by
        unfold bkE bk2 bk1
        split
        · split <;> split <;> simp
        · simp
      omega
  have := le (List.range 96)
  rw [List.length_range] at this
  unfold zTB; omega
theorem zMB_mv {w w' : St} {T : Tp} {E : Ev} {g : Sg} {K : Int32 → Int32 → Int32 → Prop} {X X' TS TS' TA : List Nat} (h : zMB w T E g K X TS TA) (n : zMV w' T E g K X' TS' TA (zTB w T)) (s : ∀ j u, j = 44 ∨ j = 45 → zgI w' 14 j u = zgI w 14 j u) : zMB w' T E g K X' TS' TA := ⟨by rw [zTB_cg s]; exact n, fun u hu => by rw [s 44 u (by simp), s 45 u (by simp)]; exact h.2 u hu⟩
theorem zEe_th0 {z z' w w' : St} {e : Nat} (I : ∀ k j, k = 3 ∨ k = 4 ∨ k = 6 ∨ k = 10 → j < 64 → zgI z' k j e = if k = 3 ∧ j = 13 then 0 else zgI z k j e) (A : ∀ k i, k = 120 ∨ k = 121 ∨ k = 124 → zgA z' k e i = zgA z k e i) (J : ∀ j, ¬ j = 32 → zgI w' 14 j e = zgI w 14 j e) (J1 : zgI w' 14 32 e = 0) (B : ∀ k i, k = 159 ∨ k = 160 ∨ k = 161 → zgA w' k e i = zgA w k e i) (h : zEe z w e) : zEe z' w' e := by
  obtain ⟨hs, ho, hi, ht, hnn⟩ := h
  have I1 : zgI z' 3 13 e = 0 := by rw [I 3 13 (by omega) (by omega), if_pos ⟨rfl, rfl⟩]
  have I3 : ∀ j, j < 64 → ¬ j = 13 → zgI z' 3 j e = zgI z 3 j e := fun j q n => by rw [I 3 j (by omega) q, if_neg (by omega)]
  have Io : ∀ k j, k = 4 ∨ k = 6 ∨ k = 10 → j < 64 → zgI z' k j e = zgI z k j e := fun k j hk q => by rw [I k j (by omega) q, if_neg (by omega)]
  refine ⟨zRs_ch (fun j q n => I3 j q (by omega)) (fun j hj => J j (by omega)) ?_ ?_ ?_ ?_ ?_ ?_ (Or.inl I1) hs, zRo_cg (fun j q => Io 6 j (by omega) q) (fun i => A 124 i (by omega)) (fun j hj => J j (by omega)) (fun i => B 159 i (by omega)) ho, zRi_cg (fun j q => Io 4 j (by omega) q) (fun k i hk => A k i (by omega)) (fun j hj => J j (by omega)) (fun k i hk => B k i (by omega)) hi, zRt_cg (fun j q => Io 10 j (by omega) q) (fun j hj => J j (by omega)) ht, zRn_of (fun j hj => I3 j (by omega) (by omega)) (Io 6 11 (by omega) (by omega)) ?_ ?_ (zRz_n hnn)⟩
  · rw [I3 0 (by omega) (by omega), J 0 (by omega)]; exact hs.1.1
  · rw [I3 0 (by omega) (by omega)]; exact id
  · rw [I3 9 (by omega) (by omega), J 28 (by omega)]; exact hs.2.2.1
  · rw [I3 11 (by omega) (by omega), J 30 (by omega)]; exact hs.2.2.2.2.1
  · rw [I3 12 (by omega) (by omega), J 31 (by omega)]; exact hs.2.2.2.2.2.1
  · rw [I1, J1]
  · rw [I3 0 (by omega) (by omega), Io 6 6 (by omega) (by omega), Io 6 4 (by omega) (by omega)]; exact hnn.1
  · unfold zRq
    rw [I1, I3 0 (by omega) (by omega), J 17 (by omega), I3 9 (by omega) (by omega), I3 11 (by omega) (by omega), Io 6 4 (by omega) (by omega), Io 6 5 (by omega) (by omega), Io 6 6 (by omega) (by omega), Io 6 7 (by omega) (by omega), Io 10 0 (by omega) (by omega), Io 4 7 (by omega) (by omega)]
    obtain ⟨c1, c2, c3, c4, c5, c6, c7, c8, c9, c10, c11, c12⟩ := hnn.2.2.2.2
    exact ⟨c1, c2, fun y => absurd rfl y, c4, c5, c6, c7, c8, c9, c10, c11, c12⟩
theorem zSgM_V {w : St} {s : Nat} {f n t wi l : Int32} {m : Nat} {p p' : Nat → Int32} (hp : ∀ i, i < m → p i = p' i) (h : zSgM w s (f, n, t, wi, l, m, p)) : zSgM w s (f, n, t, wi, l, m, p') := ⟨h.1, h.2.1, h.2.2.1, fun i hi => (h.2.2.2 i hi).trans (hp i hi)⟩
theorem zRoom {z w : St} {e N : Nat} (hi : zRi z w e) : ∃ R, R ≤ 2048 ∧ zgI z 4 3 e = Int32.ofNat R ∧ ∀ u, (∀ j, zgI u 14 j e = zgI w 14 j e) → fX14_room N e u = some (Int32.ofNat (2048 - R), u) := by
  obtain ⟨R, r1, r2, -, r4, r5⟩ := zp_room (N := N) hi
  refine ⟨R, r1, r2, fun u hu => ?_⟩
  unfold fX14_room fX14_readable fX14_readable_27 at r5 ⊢
  rw [hu 17, hu 23, hu 16, hu 18]
  by_cases c : zgI w 14 17 e = 0
  · rw [if_pos c, zc_e] at r5 ⊢
    have := congrArg (fun o : Option (Int32 × St) => o.map Prod.fst) r5
    have e1 : (2048 : Int32) - 0 = Int32.ofNat (2048 - R) := Option.some.inj this
    rw [e1]
  · rw [if_neg c] at r5 ⊢
    by_cases d : zgI w 14 23 e = 0
    · rw [if_pos d, zc_e] at r5 ⊢
      have := congrArg (fun o : Option (Int32 × St) => o.map Prod.fst) r5
      have e1 := Option.some.inj this
      rw [show (2048 : Int32) - (zgI w 14 16 e - zgI w 14 18 e) = Int32.ofNat (2048 - R) from e1]
    · rw [if_neg d, zc_e] at r5 ⊢
      have := congrArg (fun o : Option (Int32 × St) => o.map Prod.fst) r5
      have e1 := Option.some.inj this
      first
        | rw [show (2048 : Int32) - (zgI w 14 16 e - 1 - zgI w 14 18 e) = Int32.ofNat (2048 - R) from e1]
        | rw [show (2048 : Int32) - (zgI w 14 16 e + -1 - zgI w 14 18 e) = Int32.ofNat (2048 - R) from e1]
/-- bytes told, both sides -/
theorem zp_told {z w : St} {T : Tp} {E : Ev} {g : Sg} {K : Int32 → Int32 → Int32 → Prop} {X TS TA : List Nat} {e b st f m N : Nat} {num : Int32} (last : Bool) (h16 : zgR z 3 16 e = some e) (h17r : zgR z 3 17 e = some e) (hst : st < 2048) (h61 : zgI z 6 1 e = Int32.ofNat st) (hf : f ≤ 2048) (hm : m ≤ 1460) (hb : ∀ i, i < m → zgA z 124 e ((st + f + i) % 2048) = zgA w 159 e (tdX w e num i)) (h17 : zgI w 14 17 e = 1) (hM : zMB w T E g K X TS TA) (hX : X.length ≤ 40) (hW : ∀ q, tv T q → (gW g q).length ≤ 16) (hTS : TS.length ≤ 100) (hl : TS.length + TA.length ≤ 4000) (h : zEe z w e) (hN : 1500 < N) :
    ∃ z' w' s, fX3_makeBytes N e 0 num (Int32.ofNat f) (Int32.ofNat m) (zbi last) z = some (0, z') ∧ fX19_toldBy N 0 e (if last = true then 2 else 0) num (Int32.ofNat m) w = some (Int32.ofNat s, w') ∧ zMade z w z' w' T E g K X TS TA e b s ∧ (∀ k j, k = 3 ∨ k = 4 ∨ k = 6 ∨ k = 10 → zgI z' k j e = if k = 3 ∧ j = 13 then 0 else zgI z k j e) ∧ (∀ j, ¬ j = 32 → zgI w' 14 j e = zgI w 14 j e) ∧ (∀ k i, ¬ k = 125 → zgA z' k e i = zgA z k e i) ∧ (∀ k i, ¬ (k = 174 ∨ k = 176) → zgA w' k e i = zgA w k e i) := by
  obtain ⟨R, r1, r2, r3⟩ := zRoom (N := N) h.2.2.1
  have len := zMB_len hM
  obtain ⟨z', a1, a2, a3, a4, a5⟩ := zc_makeBytes (b := b) (num := num) last h16 h17r hst hf hm h61 r1 r2 hN
  obtain ⟨w', s, b1, b2, b3, b4, b5, b6, b7, b8, b9, b10, b11⟩ := zm_toldBy (N := N) (if last = true then 2 else 0) num hM.1 hX hW hTS (by omega) hm r1 r3 hN
  have n17 : ¬ zgI w 14 17 e = 0 := by rw [h17]; decide
  rw [if_neg n17, if_neg n17] at b5
  have ff : (if last = true then (2 : Int32) else 0) ||| 8 = if last = true then 10 else 8 := by cases last <;> decide
  rw [ff, ← h.2.2.1.1.1] at b5
  have b5 := zSgM_V (p' := fun i => be (zgA z 124 e ((st + f + i) % 2048))) (fun i hi => by rw [hb i hi]) b5
  have J : ∀ j u, zgI w' 14 j u = if j = 32 ∧ u = e then 0 else zgI w 14 j u := fun j u => by
    rw [b8 14 j u (by omega), if_neg n17]
    by_cases c : j = 32 ∧ u = e
    · rw [if_pos c, if_pos ⟨rfl, c⟩]
    · rw [if_neg c, if_neg (fun y => c y.2)]
  have I : ∀ k j, k = 3 ∨ k = 4 ∨ k = 6 ∨ k = 10 → zgI z' k j e = if k = 3 ∧ j = 13 then 0 else zgI z k j e := fun k j hk => by
    rw [a3 k j e (by omega)]
    by_cases c : k = 3 ∧ j = 13
    · rw [if_pos c, if_pos ⟨c.1, c.2, rfl⟩]
    · rw [if_neg c, if_neg (fun y => c ⟨y.1, y.2.1⟩)]
  have Jn : ∀ j, ¬ j = 32 → zgI w' 14 j e = zgI w 14 j e := fun j q => by rw [J, if_neg (by omega)]
  have q : zMdF e w w' := ⟨fun k j o n1 n2 => by rw [b8 k j o n2, if_neg (by omega)], fun k o i n => b9 k o i (by omega), b11, b10.2.2.2.1, b10.2.2.2.2⟩
  refine ⟨z', w', s, a1, b1, ⟨zEe_th0 (fun k j hk _ => I k j hk) (fun k i hk => a4 k e i (by omega)) Jn (by rw [J, if_pos ⟨rfl, rfl⟩]) (fun k i hk => b9 k e i (by omega)) h, ⟨_, a2, b5, fun _ => b6, fun y => ?_⟩, zMB_mv hM b3 (fun j u hj => by rw [J, if_neg (by omega)]), b2, b4, b7, a5, q⟩, I, Jn, fun k i n => a4 k e i (by omega), fun k i n => b9 k e i n⟩
  exfalso
  unfold vgK vgF at y
  cases last
  · exact absurd (show decide (¬ (8 : Int32) &&& 1 = 0) = true from y) (by decide)
  · exact absurd (show decide (¬ (10 : Int32) &&& 1 = 0) = true from y) (by decide)
