/-! datagrams that are put together: the class -/
theorem zmap_inj {α β : Type} {f : α → β} : ∀ {L : List α}, (L.map f).Nodup → ∀ {a b : α}, a ∈ L → b ∈ L → f a = f b → a = b := by
  intro L
  induction L with
  | nil => intro _ a b ha; cases ha
  | cons y L ih =>
    intro hn a b ha hb hab
    rw [List.map_cons, List.nodup_cons] at hn
    rcases List.mem_cons.mp ha with e | ha'
    · rcases List.mem_cons.mp hb with e2 | hb'
      · rw [e, e2]
      · exact absurd (List.mem_map.mpr ⟨b, hb', by rw [← hab, e]⟩) hn.1
    · rcases List.mem_cons.mp hb with e2 | hb'
      · exact absurd (List.mem_map.mpr ⟨a, ha', by rw [hab, e2]⟩) hn.1
      · exact ih hn.2 ha' hb' hab
/-- the class's slot, the model's pieces; the datagram as it will be; since when; which eights came -/
abbrev Pe : Type := (Nat × Nat) × Dg × Nat × (Nat → Bool)
def pes (e : Pe) : Nat := e.1.1
def pep (e : Pe) : Nat := e.1.2
def peD (e : Pe) : Dg := e.2.1
def pet (e : Pe) : Nat := e.2.2.1
def peU (e : Pe) : Nat → Bool := e.2.2.2
def zbt (z : St) (k i u : Nat) : Bool := (zgL z k i (u / 64)).toBitVec.getLsbD (u % 64)
def dSb (D D' : Dg) : Bool := decide (D.1 0 = D'.1 0) && (decide (D.1 1 = D'.1 1) && (decide (D.1 2 = D'.1 2) && decide (D.1 3 = D'.1 3)))
theorem dSb_iff {D D' : Dg} : dSb D D' = true ↔ D.1 0 = D'.1 0 ∧ D.1 1 = D'.1 1 ∧ D.1 2 = D'.1 2 ∧ D.1 3 = D'.1 3 := by simp [dSb]
def zPec (z : St) (b : Nat) (e : Pe) : Prop := (∀ j, j < 11 → j ≠ 8 → zgI z 7 j (515 + 4 * b + pes e) = (peD e).1 j) ∧ (∀ i, i < dw (peD e) → peU e (i / 8) = true → zgA z 125 (515 + 4 * b + pes e) i = (peD e).2 i) ∧ (∀ u, u < 192 → zbt z 116 (b * 4 + pes e) u = peU e u) ∧ zgA z 117 b (pes e) = Int32.ofNat (pet e)
/-- the class's side of what waits for its pieces at a box, in the order of coming -/
def zPcS (z : St) (b : Nat) (L : List Pe) (ord : Nat) : Prop := ((L.map pes).Nodup ∧ (∀ e, e ∈ L → pes e < 4) ∧ zgI z 1 9 b = Int32.ofNat ord) ∧ (∃ os : Nat → Nat, (∀ i, i < 4 → zgA z 118 b i = Int32.ofNat (os i) ∧ os i ≤ ord ∧ (os i = 0 ↔ i ∉ L.map pes)) ∧ (L.map (fun e => os (pes e))).Pairwise (· < ·)) ∧ ∀ e, e ∈ L → zPec z b e
theorem zo_0e {a : Nat} (ha : a < 2147483648) : Int32.ofNat a = 0 ↔ a = 0 := zo_eq (b := 0) ha (by omega)
theorem zc_partialFor {z : St} {T : Tp} {b x ord N : Nat} {L : List Pe} {D : Dg} (hT : zTC z T) (hb : b < tb T) (h : zPcS z b L ord) (ho : ord < 2147483648) (hx : ∀ j, j < 4 → zgI z 7 j x = D.1 j) (hN : 4 < N) : fX1_partialFor N b x z = some ((match zfst (fun i => L.any (fun e => pes e == i && dSb (peD e) D)) 4 0 with | some i => Int32.ofNat i | none => (-1 : Int32)), z) := by
  obtain ⟨⟨h1, h2, h3⟩, ⟨os, h4, h5⟩, h6⟩ := h
  have q114 := (hT.2.1.2 b hb).2.2.2.2.2.2
  have step : ∀ (n i : Nat), i < 4 → fX1_partialFor_2 N (n + 1) b x (Int32.ofNat i) z = if L.any (fun e => pes e == i && dSb (peD e) D) = true then some (Int32.ofNat i, z) else fX1_partialFor_2 N n b x (Int32.ofNat (i + 1)) z := by
    intro n i hi
    have next : fX1_partialFor_72 N (fX1_partialFor_2 N n) b x (Int32.ofNat i) z = fX1_partialFor_2 N n b x (Int32.ofNat (i + 1)) z := by
      unfold fX1_partialFor_72
      rw [zl_e, zo_i1]
    show fX1_partialFor_2b N (fX1_partialFor_2 N n) b x (Int32.ofNat i) z = _
    unfold fX1_partialFor_2b
    rw [if_neg (by rw [show (4 : Int32) = Int32.ofNat 4 from rfl, zo_le (by omega) (by omega)]; omega), zkk hi (by omega), zl_e, zoC (by omega), q114 i hi, zkk hi (by omega), (h4 i hi).1, next]
    have le := (h4 i hi).2.1
    by_cases c : os i = 0
    · have hni := (h4 i hi).2.2.mp c
      have ha : L.any (fun e => pes e == i && dSb (peD e) D) = false := by
        rw [List.any_eq_false]
        intro e he
        have : ¬ pes e = i := fun y => hni (List.mem_map.mpr ⟨e, he, y⟩)
        simp [this]
      rw [if_pos ((zo_0e (by omega)).mpr c), ha, if_neg (by decide)]
    · have hin : i ∈ L.map pes := Classical.byContradiction (fun y => c ((h4 i hi).2.2.mpr y))
      obtain ⟨e, he, hei⟩ := List.mem_map.mp hin
      have hc := h6 e he
      have ha : L.any (fun e => pes e == i && dSb (peD e) D) = dSb (peD e) D := by
        cases hd : dSb (peD e) D with
        | true => exact List.any_eq_true.mpr ⟨e, he, by simp [hei, hd]⟩
        | false =>
          rw [List.any_eq_false]
          intro e' he'
          by_cases hs : pes e' = i
          · have : e' = e := zmap_inj h1 he' he (hs.trans hei.symm)
            rw [this]; simp [hd]
          · simp [hs]
      have f : ∀ j, j < 4 → zgI z 7 j (515 + 4 * b + i) = (peD e).1 j := fun j hj => by rw [← hei]; exact hc.1 j (by omega) (by omega)
      rw [if_neg (fun y => c ((zo_0e (by omega)).mp y)), zd_e, ha, f 0 (by omega), f 1 (by omega), f 2 (by omega), f 3 (by omega), hx 0 (by omega), hx 1 (by omega), hx 2 (by omega), hx 3 (by omega)]
      by_cases c0 : (peD e).1 0 = D.1 0
      · rw [if_neg (fun y => y c0)]
        by_cases c1 : (peD e).1 1 = D.1 1
        · rw [if_pos c1]
          by_cases c2 : (peD e).1 2 = D.1 2
          · rw [if_neg (fun y => y c2)]
            by_cases c3 : (peD e).1 3 = D.1 3
            · rw [if_neg (fun y => y c3), if_pos (dSb_iff.mpr ⟨c0, c1, c2, c3⟩)]
            · rw [if_pos c3, if_neg (fun y => c3 (dSb_iff.mp y).2.2.2)]
          · rw [if_pos c2, if_neg (fun y => c2 (dSb_iff.mp y).2.2.1)]
        · rw [if_neg c1, if_neg (fun y => c1 (dSb_iff.mp y).2.1)]
      · rw [if_pos c0, if_neg (fun y => c0 (dSb_iff.mp y).1)]
  have e0 : fX1_partialFor_2 N N b x (Int32.ofNat 0) z = _ := zlf0 (G := fun n i => fX1_partialFor_2 N n b x (Int32.ofNat i) z) (p := fun i => L.any (fun e => pes e == i && dSb (peD e) D)) (f := fun i => some (Int32.ofNat i, z)) (r := some ((-1 : Int32), z)) (k := 4) hN (fun n i hi hp => by
    show fX1_partialFor_2 N (n + 1) b x (Int32.ofNat i) z = _
    rw [step n i hi, if_neg (by rw [hp]; decide)]) (fun n i hi hp => by
    show fX1_partialFor_2 N (n + 1) b x (Int32.ofNat i) z = _
    rw [step n i hi, if_pos hp]) (fun n => by
    show fX1_partialFor_2b N (fX1_partialFor_2 N n) b x (Int32.ofNat 4) z = _
    unfold fX1_partialFor_2b
    rw [if_pos (show (4 : Int32) ≤ Int32.ofNat 4 by decide)])
  show fX1_partialFor_2 N N b x (Int32.ofNat 0) z = _
  rw [e0]
  cases zfst (fun i => L.any (fun e => pes e == i && dSb (peD e) D)) 4 0 <;> rfl
theorem zc_emptyPartial {z : St} {b ord N : Nat} {L : List Pe} (h : zPcS z b L ord) (ho : ord < 2147483648) (hN : 4 < N) : fX1_emptyPartial N b z = some ((match zfst (fun i => ! (L.any (fun e => pes e == i))) 4 0 with | some i => Int32.ofNat i | none => (-1 : Int32)), z) := by
  obtain ⟨⟨h1, h2, h3⟩, ⟨os, h4, h5⟩, h6⟩ := h
  have step : ∀ (n i : Nat), i < 4 → fX1_emptyPartial_2 N (n + 1) b (Int32.ofNat i) z = if (! (L.any (fun e => pes e == i))) = true then some (Int32.ofNat i, z) else fX1_emptyPartial_2 N n b (Int32.ofNat (i + 1)) z := by
    intro n i hi
    have le := (h4 i hi).2.1
    show fX1_emptyPartial_2b N (fX1_emptyPartial_2 N n) b (Int32.ofNat i) z = _
    unfold fX1_emptyPartial_2b
    rw [if_neg (by rw [show (4 : Int32) = Int32.ofNat 4 from rfl, zo_le (by omega) (by omega)]; omega), zkk hi (by omega), zoC (by omega), (h4 i hi).1]
    by_cases c : os i = 0
    · have hni := (h4 i hi).2.2.mp c
      have ha : L.any (fun e => pes e == i) = false := by
        rw [List.any_eq_false]
        intro e he
        have : ¬ pes e = i := fun y => hni (List.mem_map.mpr ⟨e, he, y⟩)
        simp [this]
      rw [if_neg (fun y => y ((zo_0e (by omega)).mpr c)), ha]
      rfl
    · have hin : i ∈ L.map pes := Classical.byContradiction (fun y => c ((h4 i hi).2.2.mpr y))
      obtain ⟨e, he, hei⟩ := List.mem_map.mp hin
      have ha : L.any (fun e => pes e == i) = true := List.any_eq_true.mpr ⟨e, he, by simp [hei]⟩
      rw [if_pos (fun y => c ((zo_0e (by omega)).mp y)), ha, zl_e, zo_i1]
      rfl
  have e0 : fX1_emptyPartial_2 N N b (Int32.ofNat 0) z = _ := zlf0 (G := fun n i => fX1_emptyPartial_2 N n b (Int32.ofNat i) z) (p := fun i => ! (L.any (fun e => pes e == i))) (f := fun i => some (Int32.ofNat i, z)) (r := some ((-1 : Int32), z)) (k := 4) hN (fun n i hi hp => by
    show fX1_emptyPartial_2 N (n + 1) b (Int32.ofNat i) z = _
    rw [step n i hi, if_neg (by rw [hp]; decide)]) (fun n i hi hp => by
    show fX1_emptyPartial_2 N (n + 1) b (Int32.ofNat i) z = _
    rw [step n i hi, if_pos hp]) (fun n => by
    show fX1_emptyPartial_2b N (fX1_emptyPartial_2 N n) b (Int32.ofNat 4) z = _
    unfold fX1_emptyPartial_2b
    rw [if_pos (show (4 : Int32) ≤ Int32.ofNat 4 by decide)])
  show fX1_emptyPartial_2 N N b (Int32.ofNat 0) z = _
  rw [e0]
  cases zfst (fun i => ! (L.any (fun e => pes e == i))) 4 0 <;> rfl
/-- all four in use: the first that came -/
theorem zc_earliestPartial {z : St} {b ord N : Nat} {L : List Pe} {e0 : Pe} (h : zPcS z b (e0 :: L) ord) (hl : L.length = 3) (ho : ord < 2147483648) (hN : 4 < N) : fX1_earliestPartial N b z = some (Int32.ofNat (pes e0), z) := by
  obtain ⟨⟨h1, h2, h3⟩, ⟨os, h4, h5⟩, h6⟩ := h
  have loop : ∀ (m i best n : Nat), i + m = 4 → best < 4 → m < n → (∀ j, j < i → os best ≤ os j) → ∃ r, r < 4 ∧ (∀ j, j < 4 → os r ≤ os j) ∧ fX1_earliestPartial_4 N n b (Int32.ofNat best) (Int32.ofNat i) z = some (Int32.ofNat r, z) := by
    intro m
    induction m with
    | zero =>
      intro i best n hi hb hn hj
      obtain ⟨n, rfl⟩ : ∃ k, n = k + 1 := ⟨n - 1, by omega⟩
      refine ⟨best, hb, fun j hj4 => hj j (by omega), ?_⟩
      show fX1_earliestPartial_4b N (fX1_earliestPartial_4 N n) b (Int32.ofNat best) (Int32.ofNat i) z = _
      unfold fX1_earliestPartial_4b
      rw [if_pos (by rw [show (4 : Int32) = Int32.ofNat 4 from rfl, zo_le (by omega) (by omega)]; omega)]
    | succ m ih =>
      intro i best n hi hb hn hj
      obtain ⟨n, rfl⟩ : ∃ k, n = k + 1 := ⟨n - 1, by omega⟩
      have l1 := (h4 best hb).2.1
      have l2 := (h4 i (by omega)).2.1
      have st : fX1_earliestPartial_4 N (n + 1) b (Int32.ofNat best) (Int32.ofNat i) z = if os best ≤ os i then fX1_earliestPartial_4 N n b (Int32.ofNat best) (Int32.ofNat (i + 1)) z else fX1_earliestPartial_4 N n b (Int32.ofNat i) (Int32.ofNat (i + 1)) z := by
        show fX1_earliestPartial_4b N (fX1_earliestPartial_4 N n) b (Int32.ofNat best) (Int32.ofNat i) z = _
        unfold fX1_earliestPartial_4b fX1_earliestPartial_26
        rw [if_neg (by rw [show (4 : Int32) = Int32.ofNat 4 from rfl, zo_le (by omega) (by omega)]; omega), zkk (by omega) (by omega), zkk (by omega) (by omega), zoC (by omega), zoC (by omega), (h4 best hb).1, (h4 i (by omega)).1, zl_e, zl_e, zo_i1]
        by_cases c : os best ≤ os i
        · rw [if_pos ((zo_le (by omega) (by omega)).mpr c), if_pos c]
        · rw [if_neg (fun y => c ((zo_le (by omega) (by omega)).mp y)), if_neg c]
      rw [st]
      by_cases c : os best ≤ os i
      · rw [if_pos c]
        exact ih (i + 1) best n (by omega) hb (by omega) (fun j hji => by
          by_cases e : j = i
          · rw [e]; exact c
          · exact hj j (by omega))
      · rw [if_neg c]
        exact ih (i + 1) i n (by omega) (by omega) (by omega) (fun j hji => by
          by_cases e : j = i
          · rw [e]; exact Nat.le_refl _
          · have := hj j (by omega); omega)
  obtain ⟨r, r4, r1, r2⟩ := loop 3 1 0 N (by omega) (by omega) (by omega) (fun j hj => by rw [show j = 0 by omega]; exact Nat.le_refl _)
  have e4 := h2 e0 List.mem_cons_self
  have hr : r = pes e0 := by
    apply Classical.byContradiction
    intro hne
    -- all four places are taken
    have hall : r ∈ (e0 :: L).map pes := by
      apply Classical.byContradiction
      intro hn
      have := zlen_sub (a := r :: (e0 :: L).map pes) (b := List.range 4) (List.nodup_cons.mpr ⟨hn, h1⟩) (fun y hy => by
        rcases List.mem_cons.mp hy with hy | hy
        · rw [hy]; exact List.mem_range.mpr r4
        · obtain ⟨e, he, hey⟩ := List.mem_map.mp hy
          rw [← hey]; exact List.mem_range.mpr (h2 e he))
      simp [hl] at this
    rw [List.map_cons] at hall h5
    rcases List.mem_cons.mp hall with hy | hy
    · exact hne hy
    · obtain ⟨e, he, hey⟩ := List.mem_map.mp hy
      have := (List.pairwise_cons.mp h5).1 (os (pes e)) (List.mem_map.mpr ⟨e, he, rfl⟩)
      rw [hey] at this
      have := r1 (pes e0) e4
      omega
  unfold fX1_earliestPartial
  rw [← hr]
  exact r2
