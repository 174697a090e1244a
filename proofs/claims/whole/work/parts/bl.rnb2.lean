/-! routers, the model: who was silent is forgotten -/
def sgm (i l j : Nat) : Nat := if j < i then j else if j < l then j + 1 else if j = l then i else j
theorem sgm_inj {i l a b : Nat} (hil : i ≤ l) (h : sgm i l a = sgm i l b) : a = b := by
  unfold sgm at h
  repeat' split at h
  all_goals omega
theorem sgm_lt {i l a : Nat} (hil : i ≤ l) (hl : l < 16) (h : a < 16) : sgm i l a < 16 := by
  unfold sgm
  repeat' split
  all_goals omega
theorem zm_nbShift {w : St} {b i l N nk : Nat} {now : Int32} {ids : Nat → Nat} (hil : i ≤ l) (hl : l < 16) : ∀ (m j nn : Nat) (y : St), j + m = l → m < nn → i ≤ j → zgI y 12 13 b = Int32.ofNat l → (∀ k, k < 16 → zgQ y 149 b k = some (if k < i then ids k else if k < j then ids (k + 1) else ids k)) →
    (∀ k j o, ¬ (k = 12 ∧ (j = 13 ∨ j = 24) ∧ o = b) → zgI y k j o = zgI w k j o) → (∀ k o j, zgA y k o j = zgA w k o j) → (∀ k o j, zgL y k o j = zgL w k o j) → (∀ k o j, ¬ (k = 149 ∧ o = b) → zgQ y k o j = zgQ w k o j) → (∀ k o j, zgR y k o j = zgR w k o j) →
    ∃ y', fX19_neighbours_150 N (fX19_neighbours_96 N nk) nn b now (Int32.ofNat i) (ids i) (Int32.ofNat j) y = fX19_neighbours_96 N nk b now (Int32.ofNat i) y' ∧ zgI y' 12 13 b = Int32.ofNat l ∧ zgI y' 12 24 b = 1 ∧ (∀ k, k < 16 → zgQ y' 149 b k = some (ids (sgm i l k))) ∧
    (∀ k j o, ¬ (k = 12 ∧ (j = 13 ∨ j = 24) ∧ o = b) → zgI y' k j o = zgI w k j o) ∧ (∀ k o j, zgA y' k o j = zgA w k o j) ∧ (∀ k o j, zgL y' k o j = zgL w k o j) ∧ (∀ k o j, ¬ (k = 149 ∧ o = b) → zgQ y' k o j = zgQ w k o j) ∧ (∀ k o j, zgR y' k o j = zgR w k o j) := by
  intro m
  induction m with
  | zero =>
    intro j nn y hj hn hij y13 yq yI yA yL yQ yR
    obtain ⟨nn, rfl⟩ : ∃ k, nn = k + 1 := ⟨nn - 1, by omega⟩
    have hjl : j = l := by omega
    subst hjl
    refine ⟨zsI (zsQ y 149 b j (some (ids i))) 12 24 b 1, ?_, ?_, ?_, fun k hk => ?_, fun k j' o n => ?_, yA, yL, fun k o j' n => ?_, yR⟩
    · show fX19_neighbours_150b N (fX19_neighbours_96 N nk) (fX19_neighbours_150 N (fX19_neighbours_96 N nk) nn) b now (Int32.ofNat i) (ids i) (Int32.ofNat j) y = _
      unfold fX19_neighbours_150b fX19_neighbours_202
      rw [y13, if_pos (Int32.le_refl _), zkk hl (by omega), zoC (by omega), zl_e, zl_e]
    · rw [zgI_sI, if_neg (by omega)]; exact y13
    · rw [zgI_sI, if_pos ⟨rfl, rfl, rfl⟩]
    · show zgQ (zsQ y 149 b j (some (ids i))) 149 b k = _
      rw [zsQ_at]
      unfold sgm
      by_cases c : k = j
      · rw [if_pos c, if_neg (by omega), if_neg (by omega), if_pos c]
      · rw [if_neg c, yq k hk]
        by_cases c1 : k < i
        · rw [if_pos c1, if_pos c1]
        · rw [if_neg c1, if_neg c1]
          by_cases c2 : k < j
          · rw [if_pos c2, if_pos c2]
          · rw [if_neg c2, if_neg c2, if_neg c]
    · rw [zgI_sI, if_neg (fun y => n ⟨y.1, Or.inr y.2.1, y.2.2⟩)]; exact yI k j' o n
    · show zgQ (zsQ y 149 b j (some (ids i))) k o j' = _
      rw [zgQ_sQ, if_neg (fun y => n ⟨y.1, y.2.1⟩)]; exact yQ k o j' n
  | succ m ih =>
    intro j nn y hj hn hij y13 yq yI yA yL yQ yR
    obtain ⟨nn, rfl⟩ : ∃ k, nn = k + 1 := ⟨nn - 1, by omega⟩
    have q1 : zgQ y 149 b (j + 1) = some (ids (j + 1)) := by rw [yq _ (by omega), if_neg (by omega), if_neg (by omega)]
    obtain ⟨y', r1, r2⟩ := ih (j + 1) nn (zsQ y 149 b j (some (ids (j + 1)))) (by omega) (by omega) (by omega) y13 (fun k hk => by
      rw [zsQ_at]
      by_cases c : k = j
      · rw [if_pos c, if_neg (by omega), if_pos (by omega), c]
      · rw [if_neg c, yq k hk]
        by_cases c1 : k < i
        · rw [if_pos c1, if_pos c1]
        · rw [if_neg c1, if_neg c1]
          by_cases c2 : k < j
          · rw [if_pos c2, if_pos (by omega)]
          · rw [if_neg c2, if_neg (by omega)]) yI yA yL (fun k o j' n => by
      rw [zgQ_sQ, if_neg (fun y => n ⟨y.1, y.2.1⟩)]; exact yQ k o j' n) yR
    refine ⟨y', ?_, r2⟩
    show fX19_neighbours_150b N (fX19_neighbours_96 N nk) (fX19_neighbours_150 N (fX19_neighbours_96 N nk) nn) b now (Int32.ofNat i) (ids i) (Int32.ofNat j) y = _
    unfold fX19_neighbours_150b
    rw [y13, if_neg (by rw [zo_le (by omega) (by omega)]; omega), zo_i1, zkk (by omega) (by omega), zl_e, zkk (by omega) (by omega), zoC (by omega), zoC (by omega), q1, zl_e, zl_e]
    exact r1
/-- one neighbour is taken out -/
theorem zRmI_out {w w' : St} {b : Nat} {C B : List Nb} {n : Nb} {ids : Nat → Nat} (h : zRmI w b (C ++ n :: B) ids) (h1 : zgI w' 12 13 b = Int32.ofNat (C ++ B).length) (h2 : ∀ k, k < 16 → zgQ w' 149 b k = some (ids (sgm C.length (C ++ B).length k))) (h3 : ∀ j o, zgI w' 15 j o = zgI w 15 j o) (h4 : ∀ k o i, zgA w' k o i = zgA w k o i) : zRmI w' b (C ++ B) (fun k => ids (sgm C.length (C ++ B).length k)) := by
  obtain ⟨⟨a1, a2, a3⟩, a4, a5⟩ := h
  rw [List.length_append, List.length_cons] at a4
  have hl : (C ++ B).length < 16 := by rw [List.length_append]; omega
  have hil : C.length ≤ (C ++ B).length := by rw [List.length_append]; omega
  refine ⟨⟨h1, fun i hi => ⟨(a2 _ (sgm_lt hil hl hi)).1, (a2 _ (sgm_lt hil hl hi)).2.1, h2 i hi⟩, fun i j hi hj e => sgm_inj hil (a3 _ _ (sgm_lt hil hl hi) (sgm_lt hil hl hj) e)⟩, by omega, fun i m hm => ?_⟩
  have hml := (List.getElem?_eq_some_iff.mp hm).1
  have up : ∀ k, (C ++ n :: B)[k]? = some m → zNb w' (ids k) m := fun k hk => zNb_cg (fun j _ => h3 j _) (fun k i _ => h4 k _ i) (a5 k m hk)
  show zNb w' (ids (sgm C.length (C ++ B).length i)) m
  by_cases c : i < C.length
  · have : sgm C.length (C ++ B).length i = i := by unfold sgm; rw [if_pos c]
    rw [this]
    refine up i ?_
    rw [List.getElem?_append_left c] at hm ⊢
    exact hm
  · have : sgm C.length (C ++ B).length i = i + 1 := by unfold sgm; rw [if_neg c, if_pos hml]
    rw [this]
    refine up (i + 1) ?_
    rw [List.getElem?_append_right (by omega)] at hm ⊢
    rw [show i + 1 - C.length = (i - C.length) + 1 by omega]
    exact hm
theorem zm_nbOut {w : St} {T : Tp} {E : Ev} {b N : Nat} (hT : zTM w T) (hc : zTc T) (hE4 : eN E ≤ 400000) (hb : b < tb T) (hN : 16 < N) (hup : ∀ j, j < tp T b → zgI w 18 5 (tq T b j) = zbi (eU E (tq T b j / 8))) :
    ∀ (B C : List Nb) (ids : Nat → Nat) (nn : Nat) (y : St), B.length < nn → zRmI y b (C ++ B) ids → (C ++ B).Pairwise (fun a b => a.1 < b.1) → (∀ n, n ∈ B → n.1 < 96 ∧ n.1 / 16 < tp T b ∧ n.2.1 ≤ eN E) →
    (∀ k j o, ¬ (k = 12 ∧ (j = 13 ∨ j = 24) ∧ o = b) → zgI y k j o = zgI w k j o) → (∀ k o j, zgA y k o j = zgA w k o j) → (∀ k o j, zgL y k o j = zgL w k o j) → (∀ k o j, ¬ (k = 149 ∧ o = b) → zgQ y k o j = zgQ w k o j) → (∀ k o j, zgR y k o j = zgR w k o j) →
    ∃ (y' : St) (ids' : Nat → Nat), fX19_neighbours_96 N nn b (Int32.ofNat (eN E)) (Int32.ofNat C.length) y = some (0, y') ∧ zRmI y' b (C ++ hSil T E b B) ids' ∧ (zgI y' 12 24 b = zgI y 12 24 b ∨ zgI y' 12 24 b = 1) ∧ ((∀ key, fn (C ++ hSil T E b B) key = fn (C ++ B) key) ∨ zgI y' 12 24 b = 1) ∧
    (∀ k j o, ¬ (k = 12 ∧ (j = 13 ∨ j = 24) ∧ o = b) → zgI y' k j o = zgI w k j o) ∧ (∀ k o j, zgA y' k o j = zgA w k o j) ∧ (∀ k o j, zgL y' k o j = zgL w k o j) ∧ (∀ k o j, ¬ (k = 149 ∧ o = b) → zgQ y' k o j = zgQ w k o j) ∧ (∀ k o j, zgR y' k o j = zgR w k o j) := by
  have ht6 := tp_le hc hb
  intro B
  induction B with
  | nil =>
    intro C ids nn y hn h hp hw yI yA yL yQ yR
    obtain ⟨nn, rfl⟩ : ∃ k, nn = k + 1 := ⟨nn - 1, by simp at hn; omega⟩
    refine ⟨y, ids, ?_, h, Or.inl rfl, Or.inl (fun _ => rfl), yI, yA, yL, yQ, yR⟩
    show fX19_neighbours_96b N (fX19_neighbours_96 N nn) b (Int32.ofNat (eN E)) (Int32.ofNat C.length) y = _
    unfold fX19_neighbours_96b
    have := h.1.1
    rw [List.append_nil] at this
    rw [this, if_pos (Int32.le_refl _)]
  | cons n B ih =>
    intro C ids nn y hn h hp hw yI yA yL yQ yR
    obtain ⟨nn, rfl⟩ : ∃ k, nn = k + 1 := ⟨nn - 1, by omega⟩
    have hlen : (C ++ n :: B).length = C.length + (B.length + 1) := by rw [List.length_append, List.length_cons]
    have h16 := h.2.1
    rw [hlen] at h16
    have e13 := h.1.1
    rw [hlen] at e13
    have hat : (C ++ n :: B)[C.length]? = some n := by
      rw [List.getElem?_append_right (Nat.le_refl _), Nat.sub_self]; rfl
    obtain ⟨w96, wp, wl⟩ := hw n (List.mem_cons_self ..)
    obtain ⟨c0, -, c2, -⟩ := h.2.2 _ n hat
    have q149 := (h.1.2.1 C.length (by omega)).2.2
    have q147 : zgQ y 147 b (n.1 / 16) = some (tq T b (n.1 / 16)) := (yQ _ _ _ (by omega)).trans ((hT.2.1.2 _ hb).2.2.2.2 _ wp)
    have u5 : zgI y 18 5 (tq T b (n.1 / 16)) = zbi (eU E (tq T b (n.1 / 16) / 8)) := (yI _ _ _ (by omega)).trans (hup _ wp)
    have start : fX19_neighbours_96 N (nn + 1) b (Int32.ofNat (eN E)) (Int32.ofNat C.length) y = if hSk T E b n = true then fX19_neighbours_96 N nn b (Int32.ofNat (eN E)) (Int32.ofNat (C.length + 1)) y else fX19_neighbours_137 N (fX19_neighbours_96 N nn) b (Int32.ofNat (eN E)) (Int32.ofNat C.length) (ids C.length) y := by
      show fX19_neighbours_96b N (fX19_neighbours_96 N nn) b (Int32.ofNat (eN E)) (Int32.ofNat C.length) y = _
      unfold fX19_neighbours_96b fX19_neighbours_202
      rw [e13, if_neg (by rw [zo_le (by omega) (by omega)]; omega), zkk (by omega) (by omega), zl_e, zoC (by omega), q149, zd_e, c0, zkk (by omega) (by omega), zl_e, zoC (by omega), q147, zd_e, u5]
      unfold hSk
      cases hu : eU E (tq T b (n.1 / 16) / 8) with
      | false => rw [if_pos (show zbi false = 0 from rfl), if_neg (by simp)]
      | true =>
        rw [if_neg (show ¬ zbi true = 0 by decide), c2, zo_sub wl]
        by_cases c : eN E - n.2.1 < 80
        · rw [if_pos (by rw [show (80 : Int32) = Int32.ofNat 80 from rfl, zo_lt (by omega) (by omega)]; exact c), if_pos (by simp [c]), zl_e, zo_i1]
        · rw [if_neg (by rw [show (80 : Int32) = Int32.ofNat 80 from rfl, zo_lt (by omega) (by omega)]; exact c), if_neg (by simp [c])]
    have hw' : ∀ n, n ∈ B → n.1 < 96 ∧ n.1 / 16 < tp T b ∧ n.2.1 ≤ eN E := fun n hn => hw n (List.mem_cons_of_mem _ hn)
    have eS : hSil T E b (n :: B) = hSil T E b [n] ++ hSil T E b B := hSil_app T E b [n] B
    rw [start, eS, hSil_1]
    by_cases c : hSk T E b n = true
    · rw [if_pos c, if_pos c]
      have e1 : C ++ n :: B = (C ++ [n]) ++ B := by simp
      have e2 : C ++ ([n] ++ hSil T E b B) = (C ++ [n]) ++ hSil T E b B := by simp
      have al : (C ++ [n]).length = C.length + 1 := by simp
      rw [e1] at h hp ⊢
      rw [e2, ← al]
      exact ih (C ++ [n]) ids nn y (by simp at hn; omega) h hp hw' yI yA yL yQ yR
    · rw [if_neg c, if_neg c, List.nil_append]
      let l : Nat := (C ++ B).length
      have hl : (C ++ B).length = C.length + B.length := List.length_append
      let y0 : St := zsI y 12 13 b (Int32.ofNat (C ++ B).length)
      have hy0 : fX19_neighbours_137 N (fX19_neighbours_96 N nn) b (Int32.ofNat (eN E)) (Int32.ofNat C.length) (ids C.length) y = fX19_neighbours_150 N (fX19_neighbours_96 N nn) N b (Int32.ofNat (eN E)) (Int32.ofNat C.length) (ids C.length) (Int32.ofNat C.length) y0 := by
        unfold fX19_neighbours_137
        rw [e13, zo_s1 (by omega), zl_e, show C.length + (B.length + 1) - 1 = (C ++ B).length by omega]
      obtain ⟨y1, r1, r2, r3, r4, r5, r6, r7, r8, r9⟩ := zm_nbShift (w := w) (b := b) (i := C.length) (l := (C ++ B).length) (N := N) (nk := nn) (now := Int32.ofNat (eN E)) (ids := ids) (by omega) (by omega) B.length C.length N y0 (by omega) (by omega) (Nat.le_refl _) (by rw [zgI_sI, if_pos ⟨rfl, rfl, rfl⟩]) (fun k hk => by
        show zgQ y 149 b k = _
        rw [(h.1.2.1 k hk).2.2]
        by_cases d : k < C.length
        · rw [if_pos d]
        · rw [if_neg d, if_neg d]) (fun k j o n => by rw [zgI_sI, if_neg (fun y => n ⟨y.1, Or.inl y.2.1, y.2.2⟩)]; exact yI k j o n) yA yL yQ yR
      have M1 := zRmI_out (w' := y1) h r2 r4 (fun j o => (r5 15 j o (by omega)).trans (yI 15 j o (by omega)).symm) (fun k o i => (r6 k o i).trans (yA k o i).symm)
      have hp1 : (C ++ B).Pairwise (fun a b => a.1 < b.1) := by
        obtain ⟨p1, p2, p3⟩ := List.pairwise_append.mp hp
        exact List.pairwise_append.mpr ⟨p1, (List.pairwise_cons.mp p2).2, fun a ha b hb => p3 a ha b (List.mem_cons_of_mem _ hb)⟩
      obtain ⟨y', ids', s1, s2, s3, s4, s5⟩ := ih C _ nn y1 (by simp at hn; omega) M1 hp1 hw' r5 r6 r7 r8 r9
      have f1 : zgI y' 12 24 b = 1 := by
        rcases s3 with y | y
        · rw [y]; exact r3
        · exact y
      exact ⟨y', ids', by rw [hy0, r1]; exact s1, s2, Or.inr f1, Or.inr f1, s5⟩
