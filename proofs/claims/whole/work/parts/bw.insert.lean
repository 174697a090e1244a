/-! the model: a row is put into an advert at its place -/
def R3 (w : St) (a r : Nat) (e : En) : Prop := mad w a (4 + 3 * r) = Int32.ofNat e.1 - 1 ∧ mad w a (4 + 3 * r + 1) = Int32.ofNat e.2.1 ∧ mad w a (4 + 3 * r + 2) = Int32.ofNat e.2.2
theorem zsub1_le : ∀ a, a < 17 → ∀ b, b < 17 → (Int32.ofNat a - 1 ≤ Int32.ofNat b - 1 ↔ a ≤ b) := by decide +kernel
/-- only rows from to of advert a change -/
def zA3 (a lo hi : Nat) (w w' : St) : Prop := (∀ k j o, zgI w' k j o = zgI w k j o) ∧ (∀ k o i, ¬ (k = 178 ∧ o = 0 ∧ 76 * a + 4 + 3 * lo ≤ i ∧ i < 76 * a + 4 + 3 * hi) → zgA w' k o i = zgA w k o i) ∧ (∀ k o i, zgL w' k o i = zgL w k o i) ∧ (∀ k o i, zgQ w' k o i = zgQ w k o i) ∧ ∀ k o i, zgR w' k o i = zgR w k o i
theorem zA3_rf (a lo hi : Nat) (w : St) : zA3 a lo hi w w := ⟨fun _ _ _ => rfl, fun _ _ _ _ => rfl, fun _ _ _ => rfl, fun _ _ _ => rfl, fun _ _ _ => rfl⟩
theorem zA3_tr {a lo hi : Nat} {x y z : St} (h1 : zA3 a lo hi x y) (h2 : zA3 a lo hi y z) : zA3 a lo hi x z := ⟨fun k j o => (h2.1 k j o).trans (h1.1 k j o), fun k o i n => (h2.2.1 k o i n).trans (h1.2.1 k o i n), fun k o i => (h2.2.2.1 k o i).trans (h1.2.2.1 k o i), fun k o i => (h2.2.2.2.1 k o i).trans (h1.2.2.2.1 k o i), fun k o i => (h2.2.2.2.2 k o i).trans (h1.2.2.2.2 k o i)⟩
theorem zA3_w {a lo hi lo' hi' : Nat} {x y : St} (h1 : lo' ≤ lo) (h2 : hi ≤ hi') (h : zA3 a lo hi x y) : zA3 a lo' hi' x y := ⟨h.1, fun k o i n => h.2.1 k o i (fun q => n ⟨q.1, q.2.1, by omega, by omega⟩), h.2.2⟩
theorem zA3_mad {a lo hi x k : Nat} {w w' : St} (h : zA3 a lo hi w w') (hk : k < 76) (n : ¬ (x = a ∧ 4 + 3 * lo ≤ k ∧ k < 4 + 3 * hi)) (hh : hi ≤ 24) : mad w' x k = mad w x k := h.2.1 178 0 _ (fun q => n (by
  have q3 := q.2.2.1
  have q4 := q.2.2.2
  have : x = a := by omega
  subst this
  exact ⟨rfl, by omega, by omega⟩))
theorem R3_cg {a lo hi r : Nat} {w w' : St} {e : En} (h : zA3 a lo hi w w') (hr : r < 24) (n : r < lo ∨ hi ≤ r) (hh : hi ≤ 24) (hR : R3 w a r e) : R3 w' a r e := ⟨(zA3_mad h (by omega) (by omega) hh).trans hR.1, (zA3_mad h (by omega) (by omega) hh).trans hR.2.1, (zA3_mad h (by omega) (by omega) hh).trans hR.2.2⟩
/-- three words of a row are written -/
def w3 (w : St) (p : Nat) (x y z : Int32) : St := zsA (zsA (zsA w 178 0 p x) 178 0 (p + 1) y) 178 0 (p + 2) z
theorem w3_A (w : St) (p : Nat) (x y z : Int32) (k o i : Nat) : zgA (w3 w p x y z) k o i = if k = 178 ∧ o = 0 ∧ i = p + 2 then z else if k = 178 ∧ o = 0 ∧ i = p + 1 then y else if k = 178 ∧ o = 0 ∧ i = p then x else zgA w k o i := by
  unfold w3
  rw [zgA_sA, zgA_sA, zgA_sA]
theorem w3_f {a r : Nat} {w : St} {x y z : Int32} : zA3 a r (r + 1) w (w3 w (76 * a + 4 + 3 * r) x y z) := ⟨fun _ _ _ => rfl, fun k o i n => by rw [w3_A, if_neg (fun q => n ⟨q.1, q.2.1, by omega, by omega⟩), if_neg (fun q => n ⟨q.1, q.2.1, by omega, by omega⟩), if_neg (fun q => n ⟨q.1, q.2.1, by omega, by omega⟩)], fun _ _ _ => rfl, fun _ _ _ => rfl, fun _ _ _ => rfl⟩
theorem w3_R {a r : Nat} {w : St} {e : En} {x y z : Int32} (h1 : x = Int32.ofNat e.1 - 1) (h2 : y = Int32.ofNat e.2.1) (h3 : z = Int32.ofNat e.2.2) : R3 (w3 w (76 * a + 4 + 3 * r) x y z) a r e := by
  refine ⟨?_, ?_, ?_⟩
  · show zgA (w3 w (76 * a + 4 + 3 * r) x y z) 178 0 (76 * a + (4 + 3 * r)) = _
    rw [w3_A, if_neg (by omega), if_neg (by omega), if_pos ⟨rfl, rfl, by omega⟩]; exact h1
  · show zgA (w3 w (76 * a + 4 + 3 * r) x y z) 178 0 (76 * a + (4 + 3 * r + 1)) = _
    rw [w3_A, if_neg (by omega), if_pos ⟨rfl, rfl, by omega⟩]; exact h2
  · show zgA (w3 w (76 * a + 4 + 3 * r) x y z) 178 0 (76 * a + (4 + 3 * r + 2)) = _
    rw [w3_A, if_pos ⟨rfl, rfl, by omega⟩]; exact h3
theorem zm_insert {w : St} {a f N : Nat} {L : List En} {e : En} (ha : a < 2400) (hf : f + L.length < 24) (hp : L.Pairwise (fun x y => eMs x < eMs y)) (hR : ∀ i x, L[i]? = some x → R3 w a (f + i) x) (hb : ∀ x, x ∈ L → x.1 ≤ 16 ∧ x.2.1 < 24) (he : e.1 ≤ 16 ∧ e.2.1 < 24) (hne : ∀ x, x ∈ L → eMs x ≠ eMs e) (hN : 24 < N) :
    ∃ w' A B, fX19_insert N 0 (Int32.ofNat a) (Int32.ofNat f) (Int32.ofNat L.length) (Int32.ofNat e.1 - 1) (Int32.ofNat e.2.1) (Int32.ofNat e.2.2) w = some (0, w') ∧ L = A ++ B ∧ (∀ x, x ∈ A → eMs x < eMs e) ∧ (∀ x, x ∈ B → eMs e < eMs x) ∧ (∀ i x, (A ++ e :: B)[i]? = some x → R3 w' a (f + i) x) ∧ zA3 a f (f + L.length + 1) w w' := by
  have loop : ∀ (n : Nat) (A B : List En) (nn : Nat) (y : St), A.length = n → n < nn → L = A ++ B → (∀ x, x ∈ B → eMs e < eMs x) → (∀ i x, A[i]? = some x → R3 y a (f + i) x) → (∀ i x, B[i]? = some x → R3 y a (f + A.length + 1 + i) x) → zA3 a f (f + L.length + 1) w y →
      ∃ w' A B, fX19_insert_26 N nn 0 (Int32.ofNat e.1 - 1) (Int32.ofNat e.2.1) (Int32.ofNat e.2.2) (Int32.ofNat (76 * a + 4 + 3 * (f + n))) (Int32.ofNat (76 * a + 4 + 3 * f)) y = some (0, w') ∧ L = A ++ B ∧ (∀ x, x ∈ A → eMs x < eMs e) ∧ (∀ x, x ∈ B → eMs e < eMs x) ∧ (∀ i x, (A ++ e :: B)[i]? = some x → R3 w' a (f + i) x) ∧ zA3 a f (f + L.length + 1) w w' := by
    intro n
    induction n with
    | zero =>
      intro A B nn y hA hn hL hB r1 r2 hy
      obtain ⟨nn, rfl⟩ : ∃ k, nn = k + 1 := ⟨nn - 1, by omega⟩
      have hA0 : A = [] := List.length_eq_zero_iff.mp hA
      subst hA0
      refine ⟨w3 y (76 * a + 4 + 3 * f) (Int32.ofNat e.1 - 1) (Int32.ofNat e.2.1) (Int32.ofNat e.2.2), [], B, ?_, hL, fun x hx => (by cases hx), hB, fun i x hx => ?_, zA3_tr hy (zA3_w (Nat.le_refl _) (by omega) w3_f)⟩
      · show fX19_insert_26b N (fX19_insert_26 N nn) 0 (Int32.ofNat e.1 - 1) (Int32.ofNat e.2.1) (Int32.ofNat e.2.2) (Int32.ofNat (76 * a + 4 + 3 * (f + 0))) (Int32.ofNat (76 * a + 4 + 3 * f)) y = _
        unfold fX19_insert_26b fX19_insert_133
        rw [show f + 0 = f from rfl, if_pos (Int32.le_refl _), zkk (by omega) (by omega), zoC (by omega), zl_e, zo_i1, zkk (by omega) (by omega), zoC (by omega), zl_e, show (2 : Int32) = Int32.ofNat 2 from rfl, zo_add, zkk (by omega) (by omega), zoC (by omega), zl_e]
        rfl
      · cases i with
        | zero =>
          have : e = x := Option.some.inj hx
          rw [← this]
          exact w3_R rfl rfl rfl
        | succ i =>
          have hx : B[i]? = some x := hx
          have hi := (List.getElem?_eq_some_iff.mp hx).1
          have hlen : L.length = B.length := by rw [hL]; rfl
          have := r2 i x hx
          rw [List.length_nil, Nat.add_zero] at this
          rw [show f + (i + 1) = f + 1 + i from by omega]
          exact R3_cg w3_f (by omega) (by omega) (by omega) this
    | succ n ih =>
      intro A B nn y hA hn hL hB r1 r2 hy
      obtain ⟨nn, rfl⟩ : ∃ k, nn = k + 1 := ⟨nn - 1, by omega⟩
      obtain ⟨A', p, hAp⟩ := lsplit A (by intro q; rw [q] at hA; cases hA)
      subst hAp
      have hA' : A'.length = n := by rw [List.length_append, List.length_singleton] at hA; omega
      have hlen : L.length = n + 1 + B.length := by rw [hL, List.length_append, hA]
      have hpL : p ∈ L := by rw [hL]; simp
      have pb := hb p hpL
      have pr : R3 y a (f + n) p := r1 n p (by rw [← hA', List.getElem?_append_right (Nat.le_refl _), Nat.sub_self]; rfl)
      obtain ⟨p1, p2, p3⟩ := pr
      have p1 : zgA y 178 0 (76 * a + (4 + 3 * (f + n))) = Int32.ofNat p.1 - 1 := p1
      have p2 : zgA y 178 0 (76 * a + (4 + 3 * (f + n) + 1)) = Int32.ofNat p.2.1 := p2
      have p3 : zgA y 178 0 (76 * a + (4 + 3 * (f + n) + 2)) = Int32.ofNat p.2.2 := p3
      have i0 : 76 * a + 4 + 3 * (f + (n + 1)) - 3 = 76 * a + (4 + 3 * (f + n)) := by omega
      have i1 : 76 * a + 4 + 3 * (f + (n + 1)) - 2 = 76 * a + (4 + 3 * (f + n) + 1) := by omega
      have i2 : 76 * a + 4 + 3 * (f + (n + 1)) - 1 = 76 * a + (4 + 3 * (f + n) + 2) := by omega
      have s3 : Int32.ofNat (76 * a + 4 + 3 * (f + (n + 1))) - (3 : Int32) = Int32.ofNat (76 * a + (4 + 3 * (f + n))) := by rw [show (3 : Int32) = Int32.ofNat 3 from rfl, zo_sub (by omega), i0]
      have s2 : Int32.ofNat (76 * a + 4 + 3 * (f + (n + 1))) - (2 : Int32) = Int32.ofNat (76 * a + (4 + 3 * (f + n) + 1)) := by rw [show (2 : Int32) = Int32.ofNat 2 from rfl, zo_sub (by omega), i1]
      have s1 : Int32.ofNat (76 * a + 4 + 3 * (f + (n + 1))) - (1 : Int32) = Int32.ofNat (76 * a + (4 + 3 * (f + n) + 2)) := by rw [zo_s1 (by omega), i2]
      have a1 : Int32.ofNat (76 * a + 4 + 3 * (f + (n + 1))) + (1 : Int32) = Int32.ofNat (76 * a + 4 + 3 * (f + (n + 1)) + 1) := zo_i1 _
      have a2 : Int32.ofNat (76 * a + 4 + 3 * (f + (n + 1))) + (2 : Int32) = Int32.ofNat (76 * a + 4 + 3 * (f + (n + 1)) + 2) := zo_add _ 2
      have am3 : Int32.ofNat (76 * a + 4 + 3 * (f + (n + 1))) + (-3) = Int32.ofNat (76 * a + 4 + 3 * (f + n)) := by
        have : Int32.ofNat (76 * a + 4 + 3 * (f + (n + 1))) = Int32.ofNat (76 * a + 4 + 3 * (f + n)) + 3 := by
          rw [show (3 : Int32) = Int32.ofNat 3 from rfl, zo_add]; congr 1
        rw [this, Int32.add_assoc, show (3 : Int32) + (-3) = 0 from by decide, Int32.add_zero]
      let yp : St := w3 y (76 * a + 4 + 3 * (f + (n + 1))) (Int32.ofNat e.1 - 1) (Int32.ofNat e.2.1) (Int32.ofNat e.2.2)
      have place : fX19_insert_133 N 0 (Int32.ofNat e.1 - 1) (Int32.ofNat e.2.1) (Int32.ofNat e.2.2) (Int32.ofNat (76 * a + 4 + 3 * (f + (n + 1)))) y = some (0, yp) := by
        unfold fX19_insert_133
        rw [a1, a2, zkk (by omega) (by omega), zoC (by omega), zl_e, zkk (by omega) (by omega), zoC (by omega), zl_e, zkk (by omega) (by omega), zoC (by omega), zl_e]
        rfl
      let ys : St := w3 y (76 * a + 4 + 3 * (f + (n + 1))) (Int32.ofNat p.1 - 1) (Int32.ofNat p.2.1) (Int32.ofNat p.2.2)
      have shift : fX19_insert_75 N (fX19_insert_26 N nn) 0 (Int32.ofNat e.1 - 1) (Int32.ofNat e.2.1) (Int32.ofNat e.2.2) (Int32.ofNat (76 * a + 4 + 3 * (f + (n + 1)))) (Int32.ofNat (76 * a + 4 + 3 * f)) y = fX19_insert_26 N nn 0 (Int32.ofNat e.1 - 1) (Int32.ofNat e.2.1) (Int32.ofNat e.2.2) (Int32.ofNat (76 * a + 4 + 3 * (f + n))) (Int32.ofNat (76 * a + 4 + 3 * f)) ys := by
        unfold fX19_insert_75
        rw [s3, s2, s1, a1, a2, am3, zkk (by omega) (by omega), zkk (by omega) (by omega), zoC (by omega), zoC (by omega), p1, zl_e, zkk (by omega) (by omega), zkk (by omega) (by omega), zoC (by omega), zoC (by omega)]
        have q2 : zgA (zsA y 178 0 (76 * a + 4 + 3 * (f + (n + 1))) (Int32.ofNat p.1 - 1)) 178 0 (76 * a + (4 + 3 * (f + n) + 1)) = Int32.ofNat p.2.1 := by rw [zgA_sA, if_neg (by omega)]; exact p2
        have q3 : zgA (zsA (zsA y 178 0 (76 * a + 4 + 3 * (f + (n + 1))) (Int32.ofNat p.1 - 1)) 178 0 (76 * a + 4 + 3 * (f + (n + 1)) + 1) (Int32.ofNat p.2.1)) 178 0 (76 * a + (4 + 3 * (f + n) + 2)) = Int32.ofNat p.2.2 := by rw [zgA_sA, if_neg (by omega), zgA_sA, if_neg (by omega)]; exact p3
        rw [q2, zl_e, zkk (by omega) (by omega), zkk (by omega) (by omega), zoC (by omega), zoC (by omega), q3, zl_e, zl_e]
        rfl
      have start : fX19_insert_26 N (nn + 1) 0 (Int32.ofNat e.1 - 1) (Int32.ofNat e.2.1) (Int32.ofNat e.2.2) (Int32.ofNat (76 * a + 4 + 3 * (f + (n + 1)))) (Int32.ofNat (76 * a + 4 + 3 * f)) y = (if Int32.ofNat e.2.1 < Int32.ofNat p.2.1 then (fX19_insert_75 N (fX19_insert_26 N nn) 0 (Int32.ofNat e.1 - 1) (Int32.ofNat e.2.1) (Int32.ofNat e.2.2) (Int32.ofNat (76 * a + 4 + 3 * (f + (n + 1)))) (Int32.ofNat (76 * a + 4 + 3 * f)) y) else (if ¬ Int32.ofNat p.2.1 = Int32.ofNat e.2.1 then (fX19_insert_133 N 0 (Int32.ofNat e.1 - 1) (Int32.ofNat e.2.1) (Int32.ofNat e.2.2) (Int32.ofNat (76 * a + 4 + 3 * (f + (n + 1)))) y) else (if (Int32.ofNat p.1 - 1) ≤ (Int32.ofNat e.1 - 1) then (fX19_insert_133 N 0 (Int32.ofNat e.1 - 1) (Int32.ofNat e.2.1) (Int32.ofNat e.2.2) (Int32.ofNat (76 * a + 4 + 3 * (f + (n + 1)))) y) else (fX19_insert_75 N (fX19_insert_26 N nn) 0 (Int32.ofNat e.1 - 1) (Int32.ofNat e.2.1) (Int32.ofNat e.2.2) (Int32.ofNat (76 * a + 4 + 3 * (f + (n + 1)))) (Int32.ofNat (76 * a + 4 + 3 * f)) y)))) := by
        show fX19_insert_26b N (fX19_insert_26 N nn) 0 (Int32.ofNat e.1 - 1) (Int32.ofNat e.2.1) (Int32.ofNat e.2.2) (Int32.ofNat (76 * a + 4 + 3 * (f + (n + 1)))) (Int32.ofNat (76 * a + 4 + 3 * f)) y = _
        unfold fX19_insert_26b
        rw [if_neg (by rw [zo_le (by omega) (by omega)]; omega), s2, s3, zkk (by omega) (by omega), zkk (by omega) (by omega), zkk (by omega) (by omega), zoC (by omega), zoC (by omega), p1, p2]
      have hpe := hne p hpL
      have cond : eMs e < eMs p ↔ e.2.1 < p.2.1 ∨ (p.2.1 = e.2.1 ∧ ¬ p.1 ≤ e.1) := by unfold eMs; omega
      have inA : ∀ x, x ∈ A' → eMs x < eMs p := fun x hx => by
        rw [hL, List.append_assoc] at hp
        exact (List.pairwise_append.mp hp).2.2 x hx p (by simp)
      by_cases c : eMs e < eMs p
      · obtain ⟨w', A2, B2, t1, t2, t3, t4, t5, t6⟩ := ih A' (p :: B) nn ys hA' (by omega) (by rw [hL, List.append_assoc]; rfl) (fun x hx => by
          rcases List.mem_cons.mp hx with q | q
          · rw [q]; exact c
          · exact hB x q) (fun i x hx => by
          have hi := (List.getElem?_eq_some_iff.mp hx).1
          exact R3_cg (w3_f (r := f + (n + 1))) (by omega) (by omega) (by omega) (r1 i x (by rw [List.getElem?_append_left hi]; exact hx))) (fun i x hx => by
          rw [hA']
          cases i with
          | zero =>
            have : p = x := Option.some.inj hx
            rw [← this, show f + n + 1 + 0 = f + (n + 1) from by omega]
            exact w3_R rfl rfl rfl
          | succ i =>
            have hx : B[i]? = some x := hx
            have hi := (List.getElem?_eq_some_iff.mp hx).1
            have := r2 i x hx
            rw [hA] at this
            rw [show f + n + 1 + (i + 1) = f + (n + 1) + 1 + i from by omega]
            exact R3_cg (w3_f (r := f + (n + 1))) (by omega) (by omega) (by omega) this) (zA3_tr hy (zA3_w (by omega) (by omega) w3_f))
        refine ⟨w', A2, B2, ?_, t2, t3, t4, t5, t6⟩
        rw [start]
        rcases cond.mp c with q | ⟨q1, q2⟩
        · rw [if_pos (by rw [zo_lt (by omega) (by omega)]; exact q), shift]; exact t1
        · rw [if_neg (by rw [zo_lt (by omega) (by omega)]; omega), if_neg (fun y => y (by rw [q1])), if_neg (fun y => q2 ((zsub1_le p.1 (by omega) e.1 (by omega)).mp y)), shift]; exact t1
      · have lt : eMs p < eMs e := by omega
        refine ⟨yp, A' ++ [p], B, ?_, hL, fun x hx => ?_, hB, fun i x hx => ?_, zA3_tr hy (zA3_w (by omega) (by omega) w3_f)⟩
        · rw [start]
          have q1 : ¬ e.2.1 < p.2.1 := fun q => c (cond.mpr (Or.inl q))
          rw [if_neg (by rw [zo_lt (by omega) (by omega)]; exact q1)]
          by_cases q2 : p.2.1 = e.2.1
          · have q3 : p.1 ≤ e.1 := Classical.byContradiction (fun q => c (cond.mpr (Or.inr ⟨q2, q⟩)))
            rw [if_neg (fun y => y (by rw [q2])), if_pos ((zsub1_le p.1 (by omega) e.1 (by omega)).mpr q3), place]
          · rw [if_pos (by rw [zo_eq (by omega) (by omega)]; exact q2), place]
        · rcases List.mem_append.mp hx with q | q
          · have := inA x q; omega
          · rw [List.mem_singleton.mp q]; exact lt
        · by_cases ci : i < n + 1
          · have hx : (A' ++ [p])[i]? = some x := by rw [List.getElem?_append_left (by rw [hA]; exact ci)] at hx; exact hx
            exact R3_cg (w3_f (r := f + (n + 1))) (by omega) (by omega) (by omega) (r1 i x hx)
          · rw [List.getElem?_append_right (by rw [hA]; omega), hA] at hx
            by_cases ci2 : i = n + 1
            · rw [ci2, Nat.sub_self] at hx
              have : e = x := Option.some.inj hx
              rw [← this, ci2]
              exact w3_R rfl rfl rfl
            · obtain ⟨j, rfl⟩ : ∃ j, i = n + 1 + (j + 1) := ⟨i - (n + 2), by omega⟩
              rw [show n + 1 + (j + 1) - (n + 1) = j + 1 from by omega] at hx
              have hx : B[j]? = some x := hx
              have hj := (List.getElem?_eq_some_iff.mp hx).1
              have := r2 j x hx
              rw [hA] at this
              rw [show f + (n + 1 + (j + 1)) = f + (n + 1) + 1 + j from by omega]
              exact R3_cg (w3_f (r := f + (n + 1))) (by omega) (by omega) (by omega) this
  obtain ⟨w', A, B, t1, t2⟩ := loop L.length L [] N w rfl (by omega) (List.append_nil _).symm (fun x hx => (by cases hx)) hR (fun i x hx => (by cases hx)) (zA3_rf _ _ _ _)
  refine ⟨w', A, B, ?_, t2⟩
  unfold fX19_insert
  have m3 : ∀ k : Nat, (3 : Int32) * Int32.ofNat k = Int32.ofNat (3 * k) := fun k => (Int32.ofNat_mul 3 k).symm
  rw [zmu76, zo_add, m3, m3, show (4 : Int32) = Int32.ofNat 4 from rfl, zo_add, zo_add, zo_add, zl_e, zl_e]
  exact t1
