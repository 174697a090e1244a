/-! frames come behind those that are under way, and are due later -/
def zAp (E : Ev) (g g' : Sg) : Prop := ∃ V, gF g' = gF g ++ V ∧ ∀ f, f ∈ V → eN E < f.1
theorem zAp_eq {E : Ev} {g g' : Sg} (h : gF g' = gF g) : zAp E g g' := ⟨[], by rw [h, List.append_nil], fun _ y => by cases y⟩
theorem zAp_rf (E : Ev) (g : Sg) : zAp E g g := zAp_eq rfl
theorem zAp_tr {E : Ev} {g1 g2 g3 : Sg} (h1 : zAp E g1 g2) (h2 : zAp E g2 g3) : zAp E g1 g3 := by
  obtain ⟨V, a1, a2⟩ := h1
  obtain ⟨W, b1, b2⟩ := h2
  exact ⟨V ++ W, by rw [b1, a1, List.append_assoc], fun f hf => (List.mem_append.mp hf).elim (a2 f) (b2 f)⟩
theorem nPut_Ap {E : Ev} {g : Sg} {q : Nat} {D : Dg} (hd : 1 ≤ eD E (q / 8)) : zAp E g (nPut E g q D) := by
  unfold nPut
  by_cases c : eU E (q / 8) = false
  · rw [if_pos c]; exact zAp_eq rfl
  rw [if_neg c]
  by_cases c1 : (gT g (q / 8)).headD 0 = 1
  · rw [if_pos c1]; exact zAp_eq (nPut3_F _ _ _)
  rw [if_neg c1]
  by_cases c2 : 512 < (gF g).length + (if (gT g (q / 8)).headD 0 = 2 then 2 else 1)
  · rw [if_pos c2]
    exact zAp_eq (nPut3_F _ _ _)
  · rw [if_neg c2]
    refine ⟨_, rfl, fun f h' => ?_⟩
    unfold nArr at h'
    split at h'
    · cases h'
    split at h'
    · rcases List.mem_cons.mp h' with e | h'
      · rw [e]; show eN E < eN E + eD E (q / 8); omega
      · obtain rfl : f = (eN E + 3 * eD E (q / 8), D) := by simpa using h'
        show eN E < eN E + 3 * eD E (q / 8); omega
    split at h'
    · obtain rfl : f = (eN E + 4 * eD E (q / 8), D) := by simpa using h'
      show eN E < eN E + 4 * eD E (q / 8); omega
    · obtain rfl : f = (eN E + eD E (q / 8), D) := by simpa using h'
      show eN E < eN E + eD E (q / 8); omega
theorem nCut_Ap {E : Ev} {b q sz : Nat} {to : Int32} {D : Dg} (hd : 1 ≤ eD E (q / 8)) : ∀ (k a : Nat) (g : Sg), zAp E g (nCut E b q to D sz k a g) := by
  intro k
  induction k with
  | zero => intro a g; exact zAp_rf E g
  | succ k ih =>
    intro a g
    unfold nCut
    split
    · exact zAp_rf E g
    · have e1 : zAp E g (sC g (zupd (gC g) b (gC g b + 1))) := zAp_eq rfl
      have e2 := nPut_Ap (E := E) (g := sC g (zupd (gC g) b (gC g b + 1))) (q := q) (D := nQ q D to a (min sz (dl D - a))) hd
      exact zAp_tr (zAp_tr e1 e2) (ih _ _)
theorem nCarry_Ap {E : Ev} {b q : Nat} {g : Sg} {to : Int32} {D : Dg} (hd : 1 ≤ eD E (q / 8)) : zAp E g (nCarry E b g q to D) := by
  unfold nCarry
  split
  · exact nPut_Ap hd
  · exact nCut_Ap hd _ _ _
theorem nWait_F (E : Ev) (g : Sg) (q s : Nat) (D : Dg) : gF (nWait E g q s D) = gF g := by
  unfold nWait
  split
  · rfl
  · split
    · rfl
    · split <;> rfl
theorem nHand_Ap {E : Ev} {b q s : Nat} {g : Sg} {D : Dg} (hd : 1 ≤ eD E (q / 8)) : zAp E g (nHand E b g q s D) := by
  unfold nHand
  split
  · exact nCarry_Ap hd
  · split
    · exact zAp_eq (nWait_F _ _ _ _ _)
    · have e1 : zAp E g (sA g (zupd (gA g) q (gA g q ++ [(s, eN E)]))) := zAp_eq rfl
      have e2 : zAp E (sA g (zupd (gA g) q (gA g q ++ [(s, eN E)]))) (nAsk E (sA g (zupd (gA g) q (gA g q ++ [(s, eN E)]))) q s) := nPut_Ap hd
      exact zAp_tr (zAp_tr e1 e2) (zAp_eq (nWait_F _ _ _ _ _))
theorem nRel_Ap {E : Ev} {b q s : Nat} {g : Sg} (hd : 1 ≤ eD E (q / 8)) : zAp E g (nRel E b g q s) := by
  have fold : ∀ (l : List Dg) (g : Sg), zAp E g (l.foldl (fun g x => nCarry E b g q (Int32.ofNat s) x) g) := by
    intro l
    induction l with
    | nil => intro g; exact zAp_rf E g
    | cons a l ih => intro g; exact zAp_tr (nCarry_Ap hd) (ih _)
  unfold nRel
  exact zAp_tr (fold _ g) (zAp_eq rfl)
theorem nHeard_Ap {E : Ev} {b q s : Nat} {g : Sg} (hd : 1 ≤ eD E (q / 8)) : zAp E g (nHeard E b g q s) := by
  unfold nHeard
  split
  · exact zAp_tr (zAp_eq rfl) (nRel_Ap hd)
  · exact zAp_eq rfl
theorem zEw_d {T : Tp} {E : Ev} {q : Nat} (hw : zEw T E) (hq : tv T q) : 1 ≤ eD E (q / 8) := (hw.2 _ hq.1).2.2.1
theorem zGs_Ap {T : Tp} {E : Ev} {Wy : Wyt} {b : Nat} {QS : Dg → Prop} {g g' : Sg} (hw : zEw T E) (hT : zTc T) (hWw : zWyw T Wy) (hb : b < tb T) (h : zGs T E Wy b QS g g') : zAp E g g' := by
  rcases h with e | ⟨D, goal, -, -, e⟩
  · rw [e]; exact zAp_rf E g
  · rw [e]
    cases r : rt T Wy b goal with
    | none => exact zAp_rf E g
    | some v =>
      obtain ⟨q, s⟩ := v
      obtain ⟨hq, -, -⟩ := rt_some hT hWw hb r
      exact nHand_Ap (zEw_d hw hq)
