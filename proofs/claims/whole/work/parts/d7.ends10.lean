/-! ends, both sides: what is thanked for goes -/
/-- the numbers of what an end has to send: B the first that is kept, L are kept, S of them are sent -/
def zOb (o n W B L S : Nat) : Prop := B = max 1 (min o W) ∧ L = W - B ∧ S = min n W - B
def zRo2 (z w : St) (e : Nat) : Prop :=
  (zgI z 6 4 e = zgI w 14 5 e ∧ zgI z 6 5 e = zgI w 14 6 e ∧ zgI z 6 6 e = zgI w 14 7 e ∧ zgI z 6 8 e = zgI w 14 9 e ∧ (zgI z 6 8 e = 0 ∨ zgI z 6 8 e = 1) ∧ zgI z 6 11 e = zgI w 14 11 e ∧ zgI z 6 12 e = zgI w 14 12 e ∧ zgI z 6 13 e = zgI w 14 13 e) ∧
  ∃ o n W st B L S : Nat, zOb o n W B L S ∧ (zgI z 6 5 e = zgI z 6 4 e + Int32.ofNat o ∧ zgI z 6 6 e = zgI z 6 4 e + Int32.ofNat n ∧ zgI w 14 8 e = zgI z 6 4 e + Int32.ofNat W ∧ 1 ≤ W ∧ W ≤ 1100000 ∧ o ≤ n ∧ n ≤ W + 1 ∧ (n = W + 1 → zgI z 6 8 e = 1) ∧ L ≤ 2048) ∧
    (st < 2048 ∧ zgI z 6 1 e = Int32.ofNat st ∧ zgI z 6 2 e = Int32.ofNat L ∧ zgI z 6 3 e = Int32.ofNat S ∧ zgI z 6 7 e = zbi (decide (1 ≤ o)) ∧ zgI z 6 9 e = zbi (decide (n = W + 1)) ∧ zgI z 6 10 e = zbi (decide (o = W + 1))) ∧
    ∀ i, i < L → zgA z 124 e ((st + i) % 2048) = zgA w 159 e ((B - 1 + i) % 2048)
theorem zRo_iff {z w : St} {e : Nat} : zRo z w e ↔ zRo2 z w e := by
  constructor
  · rintro ⟨f, o, n, W, st, q, r, a⟩
    exact ⟨f, o, n, W, st, _, _, _, ⟨rfl, rfl, rfl⟩, q, r, a⟩
  · rintro ⟨f, o, n, W, st, B, L, S, ⟨rfl, rfl, rfl⟩, q, r, a⟩
    exact ⟨f, o, n, W, st, q, r, a⟩
theorem zOb_f {o n W B L S : Nat} (h : zOb o n W B L S) (W1 : 1 ≤ W) : 1 ≤ B ∧ B + L = W ∧ S ≤ L ∧ (o ≤ 1 → B = 1) ∧ (1 ≤ o → o ≤ W → B = o) ∧ (o = W + 1 → B = W) ∧ (B ≤ n → n ≤ W → B + S = n) ∧ (n ≤ 1 → S = 0) ∧ (W ≤ n → S = L) := by
  obtain ⟨h1, h2, h3⟩ := h
  refine ⟨?_, ?_, ?_, ?_, ?_, ?_, ?_, ?_, ?_⟩ <;> omega
theorem zOb_th {o n W B L S o' : Nat} (h : zOb o n W B L S) (W1 : 1 ≤ W) (hW : W ≤ 1100000) (lt : o < o') (le : o' ≤ n) (nW : n ≤ W + 1) : ∃ L' S' y nb, zOb o' n W (B + y) L' S' ∧ L = L' + y ∧ S = S' + y ∧ 1 ≤ B ∧ S ≤ L ∧ nb ≤ 1100001 ∧ y ≤ nb ∧ (if S < nb then S else nb) = y ∧ (if 1 ≤ o then o' - o else o' - 1) = nb ∧ (y < nb ↔ o' = W + 1) ∧ (y < nb → n = W + 1) := by
  obtain ⟨h1, h2, h3⟩ := h
  obtain ⟨nb, hnb⟩ : ∃ u, u = o' - max 1 o := ⟨_, rfl⟩
  have e2 : (if 1 ≤ o then o' - o else o' - 1) = nb := by split <;> omega
  refine ⟨L - (max 1 (min o' W) - B), S - (max 1 (min o' W) - B), max 1 (min o' W) - B, nb, ⟨?_, ?_, ?_⟩, ?_, ?_, ?_, ?_, ?_, ?_, ?_, e2, ?_, ?_⟩
  · omega
  · omega
  · omega
  · omega
  · omega
  · omega
  · omega
  · omega
  · omega
  · split <;> omega
  · omega
  · omega
theorem zand2047 (y : Int32) : zun (y &&& (2047 : Int32)) = zun y % 2048 := by
  show (y.toBitVec &&& (2047 : Int32).toBitVec).toNat = _
  rw [BitVec.toNat_and]
  exact Nat.and_two_pow_sub_one_eq_mod _ 11
theorem zand47 {v : Nat} (h : v < 4096) : (Int32.ofNat v &&& (2047 : Int32)) = Int32.ofNat (v % 2048) := by
  apply zun_inj
  rw [zand2047, zun_of (by omega), zun_of (by omega)]
/-- min and max of the machine -/
theorem zmin_of {a b : Nat} (ha : a < 1073741824) (hb : b < 1073741824) : (if Int32.ofNat a < Int32.ofNat b then Int32.ofNat a else Int32.ofNat b) = Int32.ofNat (if a < b then a else b) := by
  by_cases c : a < b
  · rw [if_pos c, if_pos (by rw [zo_lt (by omega) (by omega)]; exact c)]
  · rw [if_neg c, if_neg (by rw [zo_lt (by omega) (by omega)]; exact c)]
theorem zmax0_of {a : Nat} (ha : a < 1073741824) : (if (0 : Int32) < Int32.ofNat a then Int32.ofNat a else (0 : Int32)) = Int32.ofNat a := by
  by_cases c : 0 < a
  · rw [if_pos (by rw [show (0 : Int32) = Int32.ofNat 0 from rfl, zo_lt (by omega) (by omega)]; exact c)]
  · rw [if_neg (by rw [show (0 : Int32) = Int32.ofNat 0 from rfl, zo_lt (by omega) (by omega)]; exact c), show a = 0 from by omega]; rfl
/-- a fact that omega is not to see -/
def zHid (p : Prop) : Prop := p
theorem zHid_i {p : Prop} (h : p) : zHid p := h
theorem zHid_o {p : Prop} (h : zHid p) : p := h
theorem zo_m1 (a : Nat) : Int32.ofNat (a + 1) + (-1) = Int32.ofNat a := by
  rw [Int32.add_neg_eq_sub, zo_s1 (by omega), Nat.add_sub_cancel]
theorem zc_thankTo_e (z : St) (e N : Nat) (x : Int32) : fX6_thankTo N e x z = (if ¬ zgI (zsI z 6 5 e x) 6 7 e = 0 then fX6_thankTo_27 N e (x - zgI z 6 5 e) (zsI z 6 5 e x) else fX6_thankTo_27 N e (x - zgI z 6 5 e + (-1)) (zsI (zsI z 6 5 e x) 6 7 e 1)) := by
  unfold fX6_thankTo
  rw [zl_e, zl_e]
  by_cases c : ¬ zgI (zsI z 6 5 e x) 6 7 e = 0
  · rw [if_pos c, if_pos c]
  · rw [if_neg c, if_neg c, zl_e, zl_e]
theorem zc_thankTo {z w : St} {e N o' : Nat} {x : Int32} (h : zRo z w e) (hx : x = zgI z 6 4 e + Int32.ofNat o') (ho : ∀ o n, zgI z 6 5 e = zgI z 6 4 e + Int32.ofNat o → zgI z 6 6 e = zgI z 6 4 e + Int32.ofNat n → o ≤ n → n ≤ 1100001 → o < o' ∧ o' ≤ n) :
    ∃ z', fX6_thankTo N e x z = some (0, z') ∧ zRo z' (zsI w 14 6 e x) e ∧ (∀ k j u, ¬ (k = 6 ∧ (j = 1 ∨ j = 2 ∨ j = 3 ∨ j = 5 ∨ j = 7 ∨ j = 10) ∧ u = e) → zgI z' k j u = zgI z k j u) ∧ (∀ k u i, zgA z' k u i = zgA z k u i) ∧ zEc1 e z z' ∧ zgI z' 6 5 e = x ∧ zgI z' 6 7 e = 1 := by
  obtain ⟨⟨f4, f5, f6, f8, f81, f11⟩, o, n, W, st, B, L, S, hO, ⟨q1, q2, q3, q4, q5, q6, q7, q8, q9⟩, ⟨r1, r2, r3, r4, r5, r6, r7⟩, a⟩ := zRo_iff.mp h
  obtain ⟨lt, le⟩ := ho o n q1 q2 q6 (by omega)
  obtain ⟨L', S', y, nb, hO', rfl, rfl, c4, c5, c6, c7, hy, hnb, hyn, hyw⟩ := zOb_th hO q4 q5 lt le q7
  clear hO ho h
  have o1 : 1 ≤ o' := by omega
  have v1 : x - zgI z 6 5 e = Int32.ofNat (o' - o) := by rw [hx, q1, zi_dif, zo_sub (by omega)]
  have nb1 : 1 ≤ o → o' - o = nb := fun c => by rw [if_pos c] at hnb; exact hnb
  have nb0 : ¬ 1 ≤ o → o' - o = nb + 1 := fun c => by rw [if_neg c] at hnb; omega
  have ev : (if (0 : Int32) < (if Int32.ofNat (S' + y) < Int32.ofNat nb then Int32.ofNat (S' + y) else Int32.ofNat nb) then (if Int32.ofNat (S' + y) < Int32.ofNat nb then Int32.ofNat (S' + y) else Int32.ofNat nb) else (0 : Int32)) = Int32.ofNat y := by
    rw [zmin_of (by omega) (by omega), hy, zmax0_of (by omega)]
  have bst : st + y < 4096 := by omega
  have h1 : zHid (nb ≤ y → ¬ o = W + 1 ∧ ¬ o' = W + 1) := fun c => by omega
  have h2 : zHid (¬ nb ≤ y → n = W + 1 ∧ o' = W + 1) := fun c => by omega
  replace q4 := zHid_i q4
  replace q5 := zHid_i q5
  replace q7 := zHid_i q7
  replace q8 := zHid_i q8
  replace le := zHid_i le
  replace o1 := zHid_i o1
  replace nb1 := zHid_i nb1
  replace nb0 := zHid_i nb0
  clear hnb hy hyn hyw lt q6
  have fin : ∀ y0 : St, (∀ k j u, ¬ (k = 6 ∧ (j = 5 ∨ j = 7) ∧ u = e) → zgI y0 k j u = zgI z k j u) → (∀ k u i, zgA y0 k u i = zgA z k u i) → zgI y0 6 5 e = x → zgI y0 6 7 e = 1 → zEc1 e z y0 → ∃ z', fX6_thankTo_27 N e (Int32.ofNat nb) y0 = some (0, z') ∧ zRo z' (zsI w 14 6 e x) e ∧ (∀ k j u, ¬ (k = 6 ∧ (j = 1 ∨ j = 2 ∨ j = 3 ∨ j = 5 ∨ j = 7 ∨ j = 10) ∧ u = e) → zgI z' k j u = zgI z k j u) ∧ (∀ k u i, zgA z' k u i = zgA z k u i) ∧ zEc1 e z z' ∧ zgI z' 6 5 e = x ∧ zgI z' 6 7 e = 1 := by
    intro y0 hI hA h5 h7 hc
    have i1 : zgI y0 6 1 e = Int32.ofNat st := (hI 6 1 e (by omega)).trans r2
    have i2 : zgI y0 6 2 e = Int32.ofNat (L' + y) := (hI 6 2 e (by omega)).trans r3
    have i3 : zgI y0 6 3 e = Int32.ofNat (S' + y) := (hI 6 3 e (by omega)).trans r4
    have i9 : zgI y0 6 9 e = zbi (decide (n = W + 1)) := (hI 6 9 e (by omega)).trans r6
    have i10 : zgI y0 6 10 e = zbi (decide (o = W + 1)) := (hI 6 10 e (by omega)).trans r7
    obtain ⟨y2, hy2⟩ : ∃ u, u = zsI (zsI (zsI y0 6 1 e (Int32.ofNat ((st + y) % 2048))) 6 2 e (Int32.ofNat L')) 6 3 e (Int32.ofNat S') := ⟨_, rfl⟩
    have run : fX6_thankTo_27 N e (Int32.ofNat nb) y0 = (if Int32.ofNat nb ≤ Int32.ofNat y then some (0, y2) else (if (zgI y2 6 9 e) = 0 then (some (0, y2)) else some (0, zsI y2 6 10 e 1))) := by
      unfold fX6_thankTo_27
      rw [i3, ev]
      simp only [zl_e]
      rw [i1, zo_add, zand47 bst]
      have j2 : ∀ v : Int32, zgI (zsI y0 6 1 e v) 6 2 e = Int32.ofNat (L' + y) := fun v => by rw [zgI_sI, if_neg (by omega)]; exact i2
      rw [j2, zo_sub (by omega), show L' + y - y = L' from by omega]
      have j3 : ∀ u v : Int32, zgI (zsI (zsI y0 6 1 e u) 6 2 e v) 6 3 e = Int32.ofNat (S' + y) := fun u v => by rw [zgI_sI, zgI_sI, if_neg (by omega), if_neg (by omega)]; exact i3
      rw [j3, zo_sub (by omega), show S' + y - y = S' from by omega, ← hy2]
    have I2 : ∀ k j u, zgI y2 k j u = if k = 6 ∧ j = 3 ∧ u = e then Int32.ofNat S' else if k = 6 ∧ j = 2 ∧ u = e then Int32.ofNat L' else if k = 6 ∧ j = 1 ∧ u = e then Int32.ofNat ((st + y) % 2048) else zgI y0 k j u := fun k j u => by rw [hy2, zgI_sI, zgI_sI, zgI_sI]
    have A2 : ∀ k u i, zgA y2 k u i = zgA z k u i := fun k u i => by rw [hy2]; exact hA k u i
    have c2 : zEc1 e z y2 := by rw [hy2]; exact zEc1_tr hc (zEc1_tr (zEc1_I (by simp)) (zEc1_tr (zEc1_I (by simp)) (zEc1_I (by simp))))
    have O2 : ∀ k j u, ¬ (k = 6 ∧ (j = 1 ∨ j = 2 ∨ j = 3) ∧ u = e) → zgI y2 k j u = zgI y0 k j u := fun k j u q => by rw [I2, if_neg (by omega), if_neg (by omega), if_neg (by omega)]
    have s1 : zgI y2 6 1 e = Int32.ofNat ((st + y) % 2048) := by rw [I2, if_neg (by omega), if_neg (by omega), if_pos ⟨rfl, rfl, rfl⟩]
    have s2 : zgI y2 6 2 e = Int32.ofNat L' := by rw [I2, if_neg (by omega), if_pos ⟨rfl, rfl, rfl⟩]
    have s3 : zgI y2 6 3 e = Int32.ofNat S' := by rw [I2, if_pos ⟨rfl, rfl, rfl⟩]
    have s9 : zgI y2 6 9 e = zbi (decide (n = W + 1)) := (O2 6 9 e (by omega)).trans i9
    have s10 : zgI y2 6 10 e = zbi (decide (o = W + 1)) := (O2 6 10 e (by omega)).trans i10
    have s5 : zgI y2 6 5 e = x := (O2 6 5 e (by omega)).trans h5
    have s7 : zgI y2 6 7 e = 1 := (O2 6 7 e (by omega)).trans h7
    clear I2 hy2
    have Jw : ∀ j, j ≠ 6 → zgI (zsI w 14 6 e x) 14 j e = zgI w 14 j e := fun j q => by rw [zgI_sI, if_neg (by omega)]
    have J6 : zgI (zsI w 14 6 e x) 14 6 e = x := by rw [zgI_sI, if_pos ⟨rfl, rfl, rfl⟩]
    have end1 : ∀ z' : St, (∀ k j u, ¬ (k = 6 ∧ j = 10 ∧ u = e) → zgI z' k j u = zgI y2 k j u) → zgI z' 6 10 e = zbi (decide (o' = W + 1)) → (∀ k u i, zgA z' k u i = zgA z k u i) → zEc1 e z z' → zRo z' (zsI w 14 6 e x) e ∧ (∀ k j u, ¬ (k = 6 ∧ (j = 1 ∨ j = 2 ∨ j = 3 ∨ j = 5 ∨ j = 7 ∨ j = 10) ∧ u = e) → zgI z' k j u = zgI z k j u) ∧ (∀ k u i, zgA z' k u i = zgA z k u i) ∧ zEc1 e z z' ∧ zgI z' 6 5 e = x ∧ zgI z' 6 7 e = 1 := fun z' hz h10 hzA hzc => by
      have R : ∀ j, j ≠ 10 → zgI z' 6 j e = zgI y2 6 j e := fun j q => hz 6 j e (by omega)
      have Y : ∀ j, ¬ (j = 1 ∨ j = 2 ∨ j = 3 ∨ j = 5 ∨ j = 7 ∨ j = 10) → zgI z' 6 j e = zgI z 6 j e := fun j q => (R j (by omega)).trans ((O2 6 j e (by omega)).trans (hI 6 j e (by omega)))
      have t5 : zgI z' 6 5 e = x := (R 5 (by omega)).trans s5
      have t7 : zgI z' 6 7 e = 1 := (R 7 (by omega)).trans s7
      refine ⟨zRo_iff.mpr ⟨⟨?_, ?_, ?_, ?_, ?_, ?_⟩, o', n, W, (st + y) % 2048, B + y, L', S', hO', ⟨?_, ?_, ?_, zHid_o q4, zHid_o q5, zHid_o le, zHid_o q7, ?_, by omega⟩, ⟨Nat.mod_lt _ (by omega), ?_, ?_, ?_, ?_, ?_, ?_⟩, fun i hi => ?_⟩, fun k j u q => ?_, hzA, hzc, t5, t7⟩
      · rw [Y 4 (by omega), Jw 5 (by omega)]; exact f4
      · rw [t5, J6]
      · rw [Y 6 (by omega), Jw 7 (by omega)]; exact f6
      · rw [Y 8 (by omega), Jw 9 (by omega)]; exact f8
      · rw [Y 8 (by omega)]; exact f81
      · rw [Y 11 (by omega), Y 12 (by omega), Y 13 (by omega), Jw 11 (by omega), Jw 12 (by omega), Jw 13 (by omega)]; exact f11
      · rw [t5, Y 4 (by omega)]; exact hx
      · rw [Y 6 (by omega), Y 4 (by omega)]; exact q2
      · rw [Y 4 (by omega), Jw 8 (by omega)]; exact q3
      · rw [Y 8 (by omega)]; exact zHid_o q8
      · rw [R 1 (by omega)]; exact s1
      · rw [R 2 (by omega)]; exact s2
      · rw [R 3 (by omega)]; exact s3
      · rw [t7, decide_eq_true (zHid_o o1)]; rfl
      · rw [R 9 (by omega)]; exact s9
      · exact h10
      · rw [hzA, Nat.mod_add_mod, show st + y + i = st + (y + i) from by omega, show B + y - 1 + i = B - 1 + (y + i) from by omega]
        exact a (y + i) (by omega)
      · rw [hz k j u (by omega), O2 k j u (by omega)]; exact hI k j u (by omega)
    rw [run]
    by_cases c : nb ≤ y
    · rw [if_pos (by rw [zo_le (by omega) (by omega)]; exact c)]
      refine ⟨y2, rfl, end1 y2 (fun _ _ _ _ => rfl) ?_ A2 c2⟩
      rw [s10, decide_eq_false (zHid_o h1 c).1, decide_eq_false (zHid_o h1 c).2]
    · rw [if_neg (by rw [zo_le (by omega) (by omega)]; exact c), s9, decide_eq_true (zHid_o h2 c).1, if_neg (by decide)]
      refine ⟨_, rfl, end1 _ (fun k j u q => by rw [zgI_sI, if_neg q]) ?_ (fun k u i => A2 k u i) (zEc1_tr c2 (zEc1_I (by simp)))⟩
      rw [zgI_sI, if_pos ⟨rfl, rfl, rfl⟩, decide_eq_true (zHid_o h2 c).2]; rfl
  have j7 : zgI (zsI z 6 5 e x) 6 7 e = zbi (decide (1 ≤ o)) := by rw [zgI_sI, if_neg (by omega)]; exact r5
  rw [zc_thankTo_e, v1, j7]
  by_cases c : 1 ≤ o
  · rw [decide_eq_true c, if_pos (by decide), zHid_o nb1 c]
    refine fin _ (fun k j u q => by rw [zgI_sI, if_neg (by omega)]) (fun _ _ _ => rfl) (by rw [zgI_sI, if_pos ⟨rfl, rfl, rfl⟩]) (by rw [j7, decide_eq_true c]; rfl) (zEc1_I (by simp))
  · rw [decide_eq_false c, if_neg (by decide), zHid_o nb0 c, zo_m1]
    refine fin _ (fun k j u q => by rw [zgI_sI, zgI_sI, if_neg (by omega), if_neg (by omega)]) (fun _ _ _ => rfl) (by rw [zgI_sI, zgI_sI, if_neg (by omega), if_pos ⟨rfl, rfl, rfl⟩]) (by rw [zgI_sI, if_pos ⟨rfl, rfl, rfl⟩]) (zEc1_tr (zEc1_I (by simp)) (zEc1_I (by simp)))
