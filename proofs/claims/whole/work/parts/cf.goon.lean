/-! ways: the class goes on from a router that is reached -/
def zBn (Ba : Nat → Option Ad) : Prop := ∀ r, zEn (bE Ba r)
theorem zBn_b {Ba : Nat → Option Ad} (h : zBn Ba) : ∀ r, ∀ e, e ∈ bE Ba r → e.1 ≤ 16 ∧ 1 ≤ e.2.2 ∧ e.2.2 ≤ 1000 := fun r e he => by
  obtain ⟨a, b, c, d⟩ := (h r).2 e he
  exact ⟨a, c, d⟩
theorem zom_i {a : Nat} (h : a < 2147483648) : (Int32.ofNat a - 1).toInt = (a : Int) - 1 := by
  by_cases c : a = 0
  · subst c; decide
  · rw [zo_s1 (by omega), zoI (by omega)]; omega
theorem zom_lt {a b : Nat} (ha : a < 2147483648) (hb : b < 2147483648) : Int32.ofNat a - 1 < Int32.ofNat b - 1 ↔ a < b := by
  rw [Int32.lt_iff_toInt_lt, zom_i ha, zom_i hb]; omega
theorem zom_eq {a b : Nat} (ha : a < 2147483648) (hb : b < 2147483648) : Int32.ofNat a - 1 = Int32.ofNat b ↔ a = b + 1 := by
  rw [← Int32.toInt_inj, zom_i ha, zoI hb]; omega
theorem zom_0 {a : Nat} (ha : a < 2147483648) : Int32.ofNat a - 1 < 0 ↔ a = 0 := by
  rw [Int32.lt_iff_toInt_lt, zom_i ha]; show (a : Int) - 1 < 0 ↔ _; omega
theorem zRCb_e {z : St} {b x : Nat} {Ba : Nat → Option Ad} (h : zRCb z b Ba) (hx : x < 16) : zgA z 102 b x = Int32.ofNat (bE Ba x).length ∧ ∀ i e, (bE Ba x)[i]? = some e → zgA z 104 (b * 16 + x) i = Int32.ofNat (ze e) := by
  have hx := h x hx
  unfold bE
  cases q : Ba x with
  | none => rw [q] at hx; exact ⟨hx.2, fun i e he => (by simp at he)⟩
  | some a => rw [q] at hx; exact ⟨hx.2.2.1, hx.2.2.2⟩
theorem zc_tellsOfFriend {z : St} {b t x n N : Nat} {Ba : Nat → Option Ad} (h : zRCb z b Ba) (hB : zBn Ba) (ht : t < 16) (hx : x < 16) (hn : n < 24) (hN : 24 < N) : fX0_tellsOfFriend N b (Int32.ofNat t) (Int32.ofNat x) (Int32.ofNat n) z = some (zbi (tellB Ba t x n), z) := by
  obtain ⟨c1, c2⟩ := zRCb_e h ht
  have hL := hB t
  unfold tellB
  generalize bE Ba t = L at *
  have hl := hL.1
  have loop : ∀ (C A : List En) (nn : Nat), A ++ C = L → C.length < nn → fX0_tellsOfFriend_3 N nn b (Int32.ofNat t) (Int32.ofNat x) (Int32.ofNat n) (Int32.ofNat A.length) z = some (zbi (C.any (fun e => e.1 == x + 1 && e.2.1 == n)), z) := by
    intro C
    induction C with
    | nil =>
      intro A nn e hn'
      obtain ⟨nn, rfl⟩ : ∃ k, nn = k + 1 := ⟨nn - 1, by omega⟩
      rw [List.append_nil] at e
      show fX0_tellsOfFriend_3b N (fX0_tellsOfFriend_3 N nn) b (Int32.ofNat t) (Int32.ofNat x) (Int32.ofNat n) (Int32.ofNat A.length) z = _
      unfold fX0_tellsOfFriend_3b
      rw [zkk ht (by omega), zoC (by omega), c1, e, if_pos (Int32.le_refl _)]
      rfl
    | cons a C ih =>
      intro A nn e hn'
      obtain ⟨nn, rfl⟩ : ∃ k, nn = k + 1 := ⟨nn - 1, by omega⟩
      have hlen : A.length < L.length := by rw [← e, List.length_append, List.length_cons]; omega
      have hget : L[A.length]? = some a := by rw [← e, List.getElem?_append_right (Nat.le_refl _), Nat.sub_self]; rfl
      obtain ⟨a1, a2, a3, a4⟩ := hL.2 a (List.mem_of_getElem? hget)
      obtain ⟨d1, d2, -⟩ := zdec (e := a) (by omega) (by omega) (by omega)
      have go := ih (A ++ [a]) nn (by rw [List.append_assoc]; exact e) (by simp at hn'; omega)
      rw [List.length_append, show [a].length = 1 from rfl] at go
      show fX0_tellsOfFriend_3b N (fX0_tellsOfFriend_3 N nn) b (Int32.ofNat t) (Int32.ofNat x) (Int32.ofNat n) (Int32.ofNat A.length) z = _
      unfold fX0_tellsOfFriend_3b fX0_friendOf fX0_netOfEntry
      rw [zkk ht (by omega), zoC (by omega), c1, if_neg (by rw [zo_le (by omega) (by omega)]; omega), zkk ht (by omega), zkk (by omega) (by omega), zoC (by omega), c2 _ _ hget, zc_e, d1, List.any_cons]
      by_cases k1 : a.1 = x + 1
      · rw [if_neg (fun y => y ((zom_eq (by omega) (by omega)).mpr k1)), zkk ht (by omega), zkk (by omega) (by omega), c2 _ _ hget, zc_e, d2]
        by_cases k2 : a.2.1 = n
        · rw [if_neg (fun y => y (by rw [k2])), k1, k2, beq_self_eq_true, beq_self_eq_true]; rfl
        · rw [if_pos (fun y => k2 ((zo_eq (by omega) (by omega)).mp y))]
          unfold fX0_tellsOfFriend_48
          rw [zo_i1, zl_e, go, show (a.2.1 == n) = false from by simpa using k2, Bool.and_false, Bool.false_or]
      · rw [if_pos (fun y => k1 ((zom_eq (by omega) (by omega)).mp y))]
        unfold fX0_tellsOfFriend_48
        rw [zo_i1, zl_e, go, show (a.1 == x + 1) = false from by simpa using k1, Bool.false_and, Bool.false_or]
  unfold fX0_tellsOfFriend
  exact loop L [] N rfl (by omega)
theorem zc_portToll {z : St} {b t n N : Nat} {Ba : Nat → Option Ad} (h : zRCb z b Ba) (hB : zBn Ba) (ht : t < 16) (hn : n < 24) (hN : 24 < N) : fX0_portToll N b (Int32.ofNat t) (Int32.ofNat n) z = some (Int32.ofNat (pTl (bE Ba t) n), z) := by
  obtain ⟨c1, c2⟩ := zRCb_e h ht
  have hL := hB t
  generalize bE Ba t = L at *
  have hl := hL.1
  have loop : ∀ (C A : List En) (nn : Nat), A ++ C = L → C.length < nn → fX0_portToll_2 N nn b (Int32.ofNat t) (Int32.ofNat n) (Int32.ofNat A.length) z = some (Int32.ofNat (pTl C n), z) := by
    intro C
    induction C with
    | nil =>
      intro A nn e hn'
      obtain ⟨nn, rfl⟩ : ∃ k, nn = k + 1 := ⟨nn - 1, by omega⟩
      rw [List.append_nil] at e
      show fX0_portToll_2b N (fX0_portToll_2 N nn) b (Int32.ofNat t) (Int32.ofNat n) (Int32.ofNat A.length) z = _
      unfold fX0_portToll_2b
      rw [zkk ht (by omega), zoC (by omega), c1, e, if_pos (Int32.le_refl _)]
      rfl
    | cons a C ih =>
      intro A nn e hn'
      obtain ⟨nn, rfl⟩ : ∃ k, nn = k + 1 := ⟨nn - 1, by omega⟩
      have hlen : A.length < L.length := by rw [← e, List.length_append, List.length_cons]; omega
      have hget : L[A.length]? = some a := by rw [← e, List.getElem?_append_right (Nat.le_refl _), Nat.sub_self]; rfl
      obtain ⟨a1, a2, a3, a4⟩ := hL.2 a (List.mem_of_getElem? hget)
      obtain ⟨d1, d2, d3⟩ := zdec (e := a) (by omega) (by omega) (by omega)
      have go := ih (A ++ [a]) nn (by rw [List.append_assoc]; exact e) (by simp at hn'; omega)
      rw [List.length_append, show [a].length = 1 from rfl] at go
      have eT : pTl (a :: C) n = if a.1 = 0 ∧ a.2.1 = n then a.2.2 else pTl C n := by
        unfold pTl
        rw [List.find?_cons]
        by_cases k : a.1 = 0 ∧ a.2.1 = n
        · rw [if_pos k, k.1, k.2, beq_self_eq_true, beq_self_eq_true]; rfl
        · rw [if_neg k, show (a.1 == 0 && a.2.1 == n) = false from by
            rw [Bool.eq_false_iff]; intro y; rw [Bool.and_eq_true] at y; exact k ⟨by simpa using y.1, by simpa using y.2⟩]
      show fX0_portToll_2b N (fX0_portToll_2 N nn) b (Int32.ofNat t) (Int32.ofNat n) (Int32.ofNat A.length) z = _
      unfold fX0_portToll_2b fX0_friendOf fX0_netOfEntry fX0_tollOf
      rw [zkk ht (by omega), zoC (by omega), c1, if_neg (by rw [zo_le (by omega) (by omega)]; omega), zkk ht (by omega), zkk (by omega) (by omega), zoC (by omega), c2 _ _ hget, zl_e, zc_e, d1, eT]
      by_cases k1 : a.1 = 0
      · rw [if_neg (by rw [Int32.not_le]; exact (zom_0 (by omega)).mpr k1), zc_e, d2]
        by_cases k2 : a.2.1 = n
        · rw [if_neg (fun y => y (by rw [k2])), zc_e, d3, if_pos ⟨k1, k2⟩]
        · rw [if_pos (fun y => k2 ((zo_eq (by omega) (by omega)).mp y)), if_neg (fun y => k2 y.2)]
          unfold fX0_portToll_45
          rw [zo_i1, zl_e, go]
      · rw [if_pos (by rw [← Int32.not_lt]; exact fun y => k1 ((zom_0 (by omega)).mp y)), if_neg (fun y => k1 y.1)]
        unfold fX0_portToll_45
        rw [zo_i1, zl_e, go]
  unfold fX0_portToll
  exact loop L [] N rfl (by omega)
theorem pTl_le {L : List En} (h : zEn L) (n : Nat) : pTl L n ≤ 1000 := by
  unfold pTl
  cases e : L.find? (fun e => e.1 == 0 && e.2.1 == n) with
  | none => exact Nat.zero_le _
  | some a => exact (h.2 a (List.mem_of_find?_eq_some e)).2.2.2
/-- what the class has of distances -/
def zYd (z : St) (b : Nat) (re : Nat → Bool) (s : Dh) : Prop := ∀ t, t < 16 → zgA z 109 b t = Int32.ofNat (s.1 t) ∧ zgA z 110 b t = zbi (re t) ∧ zgA z 111 b t = Int32.ofNat (s.2 t) - 1
def zYk (b : Nat) (z z' : St) : Prop := (∀ k j o, zgI z' k j o = zgI z k j o) ∧ (∀ k o i, ¬ (o = b ∧ (k = 109 ∨ k = 110 ∨ k = 111)) → zgA z' k o i = zgA z k o i) ∧ (∀ k o i, zgL z' k o i = zgL z k o i) ∧ (∀ k o i, zgQ z' k o i = zgQ z k o i) ∧ ∀ k o i, zgR z' k o i = zgR z k o i
theorem zYk_rf (b : Nat) (z : St) : zYk b z z := ⟨fun _ _ _ => rfl, fun _ _ _ _ => rfl, fun _ _ _ => rfl, fun _ _ _ => rfl, fun _ _ _ => rfl⟩
theorem zYk_tr {b : Nat} {x y z : St} (h1 : zYk b x y) (h2 : zYk b y z) : zYk b x z := ⟨fun k j o => (h2.1 k j o).trans (h1.1 k j o), fun k o i n => (h2.2.1 k o i n).trans (h1.2.1 k o i n), fun k o i => (h2.2.2.1 k o i).trans (h1.2.2.1 k o i), fun k o i => (h2.2.2.2.1 k o i).trans (h1.2.2.2.1 k o i), fun k o i => (h2.2.2.2.2 k o i).trans (h1.2.2.2.2 k o i)⟩
theorem zYk_A {b k i : Nat} {z : St} {v : Int32} (hk : k = 109 ∨ k = 110 ∨ k = 111) : zYk b z (zsA z k b i v) := ⟨fun _ _ _ => rfl, fun k' o' i' n => by rw [zgA_sA, if_neg (fun y => n ⟨y.2.1, by rw [y.1]; exact hk⟩)], fun _ _ _ => rfl, fun _ _ _ => rfl, fun _ _ _ => rfl⟩
theorem zYk_b {b : Nat} {z z' : St} {Ba : Nat → Option Ad} (f : zYk b z z') (h : zRCb z b Ba) : zRCb z' b Ba := zRCb_cg (fun k i hk => f.2.1 k b i (by omega)) (fun o i _ _ => f.2.1 104 o i (by omega)) h
theorem zYd_set {z : St} {b t v hv : Nat} {re : Nat → Bool} {s : Dh} (h : zYd z b re s) : zYd (zsA (zsA z 109 b t (Int32.ofNat v)) 111 b t (Int32.ofNat hv - 1)) b re (zupd s.1 t v, zupd s.2 t hv) := fun u hu => by
  obtain ⟨a, b', c⟩ := h u hu
  have A : ∀ k i, zgA (zsA (zsA z 109 b t (Int32.ofNat v)) 111 b t (Int32.ofNat hv - 1)) k b i = if k = 111 ∧ i = t then Int32.ofNat hv - 1 else if k = 109 ∧ i = t then Int32.ofNat v else zgA z k b i := fun k i => by
    rw [zgA_sA, zgA_sA]
    by_cases c1 : k = 111 ∧ i = t
    · rw [if_pos ⟨c1.1, rfl, c1.2⟩, if_pos c1]
    · rw [if_neg (fun y => c1 ⟨y.1, y.2.2⟩), if_neg c1]
      by_cases c2 : k = 109 ∧ i = t
      · rw [if_pos ⟨c2.1, rfl, c2.2⟩, if_pos c2]
      · rw [if_neg (fun y => c2 ⟨y.1, y.2.2⟩), if_neg c2]
  rw [A, A, A]
  by_cases e : u = t
  · subst e
    refine ⟨?_, ?_, ?_⟩
    · rw [if_neg (by omega), if_pos ⟨rfl, rfl⟩]; show _ = Int32.ofNat (zupd s.1 u v u); rw [zupd_s]
    · rw [if_neg (by omega), if_neg (by omega)]; exact b'
    · rw [if_pos ⟨rfl, rfl⟩]; show _ = Int32.ofNat (zupd s.2 u hv u) - 1; rw [zupd_s]
  · refine ⟨?_, ?_, ?_⟩
    · rw [if_neg (by omega), if_neg (by omega)]; show _ = Int32.ofNat (zupd s.1 t v u); rw [zupd_n e]; exact a
    · rw [if_neg (by omega), if_neg (by omega)]; exact b'
    · rw [if_neg (by omega), if_neg (by omega)]; show _ = Int32.ofNat (zupd s.2 t hv u) - 1; rw [zupd_n e]; exact c
