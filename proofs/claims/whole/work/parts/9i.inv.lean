/-! what is always so of the network -/
/-- a frame that is under way -/
def zFo (T : Tp) (E : Ev) (f : Fr) : Prop := zDw f.2 ∧ f.1 ≤ eN E + 200 ∧ eN E ≤ f.1 ∧ (∃ q, tv T q ∧ f.2.1 12 = Int32.ofNat (q / 8) ∧ f.2.1 13 = Int32.ofNat (q % 8)) ∧ (f.2.1 11 = -1 ∨ ∃ t, t < 8 ∧ f.2.1 11 = Int32.ofNat t)
/-- how a datagram may be cut: at eights, the first piece not too small -/
def zct (D : Dg) (a b : Nat) : Prop := a % 8 = 0 ∧ (b % 8 = 0 ∨ a + b = dl D) ∧ (a = 0 → 64 ≤ b ∨ b = dl D)
theorem zct_all (D : Dg) : zct D 0 (dl D) := ⟨rfl, Or.inr (by omega), fun _ => Or.inr rfl⟩
def zPcl (P : Dg → Prop) : Prop := ∀ D a b t n s, P D → a + b ≤ dl D → 1 ≤ b → zct D a b → P (dCut D a b t n s)
def zGI (T : Tp) (E : Ev) (P : Dg → Prop) (g : Sg) : Prop := zGw T E g ∧ zWk T g ∧ (∀ q, tv T q → (gW g q).length ≤ 16) ∧ (∀ f, f ∈ gF g → zFo T E f ∧ (¬ f.2.1 2 = 5 → ¬ f.2.1 2 = 6 → P f.2)) ∧ ∀ q, tv T q → ∀ D, D ∈ gW g q → P D
/-- a frame's content that may be put -/
def zPo (T : Tp) (P : Dg → Prop) (q : Nat) (D : Dg) : Prop := zDw D ∧ D.1 12 = Int32.ofNat (q / 8) ∧ D.1 13 = Int32.ofNat (q % 8) ∧ (D.1 11 = -1 ∨ ∃ t, t < 8 ∧ D.1 11 = Int32.ofNat t) ∧ (¬ D.1 2 = 5 → ¬ D.1 2 = 6 → P D)
theorem nPut3_F (E : Ev) (g : Sg) (q : Nat) : gF (nPut3 E g q) = gF g := by
  unfold nPut3
  split <;> rfl
theorem nPut_F {E : Ev} {g : Sg} {q : Nat} {D : Dg} (hd : 1 ≤ eD E (q / 8) ∧ eD E (q / 8) ≤ 50) {f : Fr} (hf : f ∈ gF (nPut E g q D)) : f ∈ gF g ∨ (f.2 = D ∧ f.1 ≤ eN E + 200 ∧ eN E ≤ f.1) := by
  unfold nPut at hf
  by_cases c : eU E (q / 8) = false
  · rw [if_pos c] at hf; exact Or.inl hf
  rw [if_neg c] at hf
  by_cases c1 : (gT g (q / 8)).headD 0 = 1
  · rw [if_pos c1, nPut3_F] at hf; exact Or.inl hf
  rw [if_neg c1] at hf
  by_cases c2 : 512 < (gF g).length + (if (gT g (q / 8)).headD 0 = 2 then 2 else 1)
  · rw [if_pos c2] at hf
    have hf : f ∈ gF (nPut3 E g q) := hf
    rw [nPut3_F] at hf; exact Or.inl hf
  · rw [if_neg c2] at hf
    have hf : f ∈ gF g ++ nArr ((gT g (q / 8)).headD 0) (eN E) (eD E (q / 8)) D := hf
    rcases List.mem_append.mp hf with h | h
    · exact Or.inl h
    · refine Or.inr ?_
      unfold nArr at h
      split at h
      · cases h
      split at h
      · rcases List.mem_cons.mp h with e | h
        · rw [e]; exact ⟨rfl, by simp only; omega, by simp only; omega⟩
        · obtain rfl : f = (eN E + 3 * eD E (q / 8), D) := by simpa using h
          exact ⟨rfl, by simp only; omega, by simp only; omega⟩
      split at h
      · obtain rfl : f = (eN E + 4 * eD E (q / 8), D) := by simpa using h
        exact ⟨rfl, by simp only; omega, by simp only; omega⟩
      · obtain rfl : f = (eN E + eD E (q / 8), D) := by simpa using h
        exact ⟨rfl, by simp only; omega, by simp only; omega⟩
/-- what does not touch rows, askings and hearing -/
theorem zGw_cg {T : Tp} {E : Ev} {g g' : Sg} (h1 : gW g' = gW g) (h2 : gA g' = gA g) (h3 : gH g' = gH g) (h : zGw T E g) : zGw T E g' := by
  obtain ⟨a, b, c, d, e⟩ := h
  refine ⟨?_, ?_, ?_, ?_, e⟩
  · unfold zWw at a ⊢; rw [h1]; exact a
  · unfold zAw at b ⊢; rw [h2]; exact b
  · unfold zHw at c ⊢; rw [h3]; exact c
  · unfold nAsked at d ⊢; rw [h1, h2]; exact d
theorem nPut_I {T : Tp} {E : Ev} {P : Dg → Prop} {g : Sg} {q : Nat} {D : Dg} (hw : zEw T E) (hq : tv T q) (h : zGI T E P g) (hD : zPo T P q D) : zGI T E P (nPut E g q D) := by
  obtain ⟨h1, h2, h3, h4, h5⟩ := h
  obtain ⟨w1, w2, w3, w4⟩ := nPut_W E g q D
  have hd := hw.2 _ hq.1
  refine ⟨zGw_cg w1 w2 w4 h1, ?_, ?_, fun f hf => ?_, ?_⟩
  · unfold zWk at h2 ⊢; rw [w1]; exact h2
  · rw [w1]; exact h3
  · rcases nPut_F ⟨hd.2.2.1, hd.2.2.2⟩ hf with hf | ⟨e, e1, e2⟩
    · exact h4 f hf
    · obtain ⟨d1, d2, d3, d4, d5⟩ := hD
      rw [← e] at d1 d2 d3 d4 d5
      exact ⟨⟨d1, e1, e2, ⟨q, hq, d2, d3⟩, d4⟩, d5⟩
  · rw [w1]; exact h5
theorem zPo_nQ {T : Tp} {P : Dg → Prop} {q a b : Nat} {D : Dg} {to : Int32} (hP : zPcl P) (hDw : zDw D) (hPD : P D) (hto : to = -1 ∨ ∃ t, t < 8 ∧ to = Int32.ofNat t) (hab : a + b ≤ dl D) (hb : 1 ≤ b) (hct : zct D a b) : zPo T P q (nQ q D to a b) := ⟨zDw_cut hDw _ _ _ hab hb, rfl, rfl, hto, fun _ _ => hP D a b _ _ _ hPD hab hb hct⟩
theorem nCut_I {T : Tp} {E : Ev} {P : Dg → Prop} {q b sz : Nat} {D : Dg} {to : Int32} (hw : zEw T E) (hq : tv T q) (hP : zPcl P) (hDw : zDw D) (hPD : P D) (hto : to = -1 ∨ ∃ t, t < 8 ∧ to = Int32.ofNat t) (hsz : 64 ≤ sz ∧ sz % 8 = 0) : ∀ (k a : Nat) (g : Sg), a % 8 = 0 → zGI T E P g → zGI T E P (nCut E b q to D sz k a g) := by
  intro k
  induction k with
  | zero => intro a g _ h; exact h
  | succ k ih =>
    intro a g ha h
    unfold nCut
    by_cases c : dl D ≤ a
    · rw [if_pos c]; exact h
    · rw [if_neg c]
      refine ih _ _ (by omega) (nPut_I hw hq ?_ (zPo_nQ hP hDw hPD hto (by omega) (by omega) ⟨ha, by omega, fun h0 => by omega⟩))
      exact h
theorem nCarry_I {T : Tp} {E : Ev} {P : Dg → Prop} {q b : Nat} {g : Sg} {D : Dg} {to : Int32} (hw : zEw T E) (hq : tv T q) (hP : zPcl P) (hDw : zDw D) (hPD : P D) (hto : to = -1 ∨ ∃ t, t < 8 ∧ to = Int32.ofNat t) (h : zGI T E P g) : zGI T E P (nCarry E b g q to D) := by
  have hd := hw.2 _ hq.1
  unfold nCarry
  split
  · exact nPut_I hw hq h (zPo_nQ hP hDw hPD hto (by omega) hDw.2.2.2.2.2 (zct_all D))
  · exact nCut_I hw hq hP hDw hPD hto (by omega) _ _ _ rfl h
theorem nNote_I {T : Tp} {E : Ev} {P : Dg → Prop} {q : Nat} {g : Sg} {to kind addr : Int32} (hw : zEw T E) (hq : tv T q) (hk : kind = 5 ∨ kind = 6) (hto : to = -1 ∨ ∃ t, t < 8 ∧ to = Int32.ofNat t) (h : zGI T E P g) : zGI T E P (nNote E g q to kind addr) := by
  refine nPut_I hw hq h ⟨zDw_cut (zDw_note q kind addr) _ _ _ (by rw [dNote_l]; decide) (by decide), rfl, rfl, hto, fun h5 h6 => ?_⟩
  have e : (nQ q (dNote q kind addr) to 0 28).1 2 = kind := rfl
  rw [e] at h5 h6
  rcases hk with k | k
  · exact absurd k h5
  · exact absurd k h6
theorem dWait_to {D : Dg} {s : Nat} (hs : s < 8) : wTo (dWait D s) = s := zoC (by omega)
theorem zAw_filter {T : Tp} {E : Ev} {g : Sg} {q s : Nat} (h : zAw T E g) : zAw T E (sA g (zupd (gA g) q ((gA g q).filter (fun a => a.1 != s)))) := by
  intro p hp
  by_cases e : p = q
  · subst e
    have e1 : gA (sA g (zupd (gA g) p ((gA g p).filter (fun a => a.1 != s)))) p = (gA g p).filter (fun a => a.1 != s) := zupd_s _ _ _
    rw [e1]
    obtain ⟨h1, h2⟩ := h p hp
    exact ⟨h1.sublist (List.filter_sublist.map _), fun a ha => h2 a (List.mem_filter.mp ha).1⟩
  · have e1 : gA (sA g (zupd (gA g) q ((gA g q).filter (fun a => a.1 != s)))) p = gA g p := zupd_n e
    rw [e1]
    exact h p hp
theorem any_filter {A : List (Nat × Nat)} {s t : Nat} : (A.filter (fun a => a.1 != s)).any (fun a => a.1 == t) = (decide (t ≠ s) && A.any (fun a => a.1 == t)) := by
  induction A with
  | nil => simp
  | cons a A ih =>
    rw [List.filter_cons]
    by_cases c : a.1 = s
    · rw [if_neg (by simp [c]), ih, List.any_cons]
      by_cases d : t = s
      · simp [d]
      · have : (a.1 == t) = false := by rw [c]; simpa using fun y : s = t => d y.symm
        rw [this]; simp
    · rw [if_pos (by simp [c]), List.any_cons, ih, List.any_cons]
      by_cases d : t = s
      · have : (a.1 == t) = false := by rw [d]; simpa using c
        rw [this]; simp [d]
      · simp [d]
theorem anyW_filter {W : List Dg} {s t : Nat} : (W.filter (fun x => wTo x != s)).any (fun x => wTo x == t) = (decide (t ≠ s) && W.any (fun x => wTo x == t)) := by
  induction W with
  | nil => simp
  | cons a A ih =>
    rw [List.filter_cons]
    by_cases c : wTo a = s
    · rw [if_neg (by simp [c]), ih, List.any_cons]
      by_cases d : t = s
      · simp [d]
      · have : (wTo a == t) = false := by rw [c]; simpa using fun y : s = t => d y.symm
        rw [this]; simp
    · rw [if_pos (by simp [c]), List.any_cons, ih, List.any_cons]
      by_cases d : t = s
      · have : (wTo a == t) = false := by rw [d]; simpa using c
        rw [this]; simp [d]
      · simp [d]
/-- one more waits, its station being asked for -/
theorem nWait_I {T : Tp} {E : Ev} {P : Dg → Prop} {g : Sg} {q s : Nat} {D : Dg} (hP : zPcl P) (hq : tv T q) (hs : s < 8) (hDw : zDw D) (hk : ¬ D.1 2 = 5 ∧ ¬ D.1 2 = 6) (hPD : P D) (hW : zWw T g) (hA : zAw T E g) (hH : zHw T E g) (hn : 1 ≤ eN E) (hWA : ∀ p t, tv T p → nAsked g p t = ((gW g p).any (fun x => wTo x == t) || (decide (p = q) && decide (t = s)))) (hWk : zWk T g) (hl : ∀ p, tv T p → (gW g p).length ≤ 16) (hF : ∀ f, f ∈ gF g → zFo T E f ∧ (¬ f.2.1 2 = 5 → ¬ f.2.1 2 = 6 → P f.2)) (hPW : ∀ p, tv T p → ∀ D, D ∈ gW g p → P D) : zGI T E P (nWait E g q s D) := by
  have hx : zDw (dWait D s) ∧ wTo (dWait D s) < 8 ∧ (dWait D s).1 11 = Int32.ofNat (wTo (dWait D s)) := ⟨zDw_cut hDw _ _ _ (by omega) hDw.2.2.2.2.2, by rw [dWait_to hs]; exact hs, by rw [dWait_to hs]; rfl⟩
  have hxk : ¬ (dWait D s).1 2 = 5 ∧ ¬ (dWait D s).1 2 = 6 := hk
  have hxP : P (dWait D s) := hP D _ _ _ _ _ hPD (by omega) hDw.2.2.2.2.2 (zct_all D)
  have all : ∀ G, G ∈ gW g q ++ [dWait D s] → (zDw G ∧ wTo G < 8 ∧ G.1 11 = Int32.ofNat (wTo G)) ∧ (¬ G.1 2 = 5 ∧ ¬ G.1 2 = 6) ∧ P G := by
    intro G hG
    rcases List.mem_append.mp hG with h | h
    · exact ⟨hW q hq G h, hWk q hq G h, hPW q hq G h⟩
    · obtain rfl : G = dWait D s := by simpa using h
      exact ⟨hx, hxk, hxP⟩
  have hany : ∀ t, (gW g q ++ [dWait D s]).any (fun x => wTo x == t) = nAsked g q t := by
    intro t
    rw [List.any_append, hWA q t hq]
    have : ([dWait D s] : List Dg).any (fun x => wTo x == t) = decide (t = s) := by
      rw [List.any_cons, dWait_to hs]
      by_cases e : t = s
      · simp [e]
      · simp [e]; exact fun y : s = t => e y.symm
    rw [this]
    simp
  have oth : ∀ p t, tv T p → p ≠ q → nAsked g p t = (gW g p).any (fun x => wTo x == t) := by
    intro p t hp hne
    rw [hWA p t hp]
    simp [hne]
  unfold nWait
  by_cases c : (gW g q).length < 16
  · rw [if_pos c]
    have gw : ∀ p, gW (sW g (zupd (gW g) q (gW g q ++ [dWait D s]))) p = if p = q then gW g q ++ [dWait D s] else gW g p := fun p => rfl
    refine ⟨⟨fun p hp G hG => ?_, hA, hH, fun p t hp => ?_, hn⟩, fun p hp G hG => ?_, fun p hp => ?_, hF, fun p hp G hG => ?_⟩
    · rw [gw] at hG
      by_cases e : p = q
      · rw [if_pos e] at hG; exact (all G hG).1
      · rw [if_neg e] at hG; exact hW p hp G hG
    · rw [gw]
      show nAsked g p t = _
      by_cases e : p = q
      · rw [if_pos e, hany, e]
      · rw [if_neg e]; exact oth p t hp e
    · rw [gw] at hG
      by_cases e : p = q
      · rw [if_pos e] at hG; exact (all G hG).2.1
      · rw [if_neg e] at hG; exact hWk p hp G hG
    · rw [gw]
      by_cases e : p = q
      · rw [if_pos e]; simp; omega
      · rw [if_neg e]; exact hl p hp
    · rw [gw] at hG
      by_cases e : p = q
      · rw [if_pos e] at hG; exact (all G hG).2.2
      · rw [if_neg e] at hG; exact hPW p hp G hG
  · rw [if_neg c]
    obtain ⟨o, W', hoW⟩ : ∃ o W', gW g q ++ [dWait D s] = o :: W' := by
      cases hh : gW g q with
      | nil => exact ⟨_, _, rfl⟩
      | cons a l => exact ⟨a, l ++ [dWait D s], rfl⟩
    have hlen : (gW g q ++ [dWait D s]).length = (gW g q).length + 1 := by simp
    have h16 := hl q hq
    rw [hoW] at all hany hlen ⊢
    simp only [List.length_cons] at hlen
    dsimp only
    have base : ∀ (g' : Sg), gW g' = zupd (gW g) q W' → gF g' = gF g → gH g' = gH g → zAw T E g' → (∀ p t, tv T p → nAsked g' p t = (zupd (gW g) q W' p).any (fun x => wTo x == t)) → zGI T E P g' := by
      intro g' e1 e2 e3 e4 e5
      have gw : ∀ p, zupd (gW g) q W' p = if p = q then W' else gW g p := fun p => rfl
      refine ⟨⟨fun p hp G hG => ?_, e4, ?_, fun p t hp => ?_, hn⟩, fun p hp G hG => ?_, fun p hp => ?_, by rw [e2]; exact hF, fun p hp G hG => ?_⟩
      · rw [e1, gw] at hG
        by_cases e : p = q
        · rw [if_pos e] at hG; exact (all G (List.mem_cons_of_mem _ hG)).1
        · rw [if_neg e] at hG; exact hW p hp G hG
      · unfold zHw at hH ⊢; rw [e3]; exact hH
      · rw [e1]; exact e5 p t hp
      · rw [e1, gw] at hG
        by_cases e : p = q
        · rw [if_pos e] at hG; exact (all G (List.mem_cons_of_mem _ hG)).2.1
        · rw [if_neg e] at hG; exact hWk p hp G hG
      · rw [e1, gw]
        by_cases e : p = q
        · rw [if_pos e]; omega
        · rw [if_neg e]; exact hl p hp
      · rw [e1, gw] at hG
        by_cases e : p = q
        · rw [if_pos e] at hG; exact (all G (List.mem_cons_of_mem _ hG)).2.2
        · rw [if_neg e] at hG; exact hPW p hp G hG
    by_cases ca : W'.any (fun x => wTo x == wTo o) = true
    · rw [if_pos ca]
      refine base _ rfl rfl rfl hA (fun p t hp => ?_)
      show nAsked g p t = (if p = q then W' else gW g p).any _
      by_cases e : p = q
      · rw [if_pos e, e, ← hany t, List.any_cons]
        by_cases d : wTo o = t
        · rw [← d, ca]; simp
        · have : (wTo o == t) = false := by simpa using d
          rw [this]; rfl
      · rw [if_neg e]; exact oth p t hp e
    · rw [if_neg ca]
      refine base _ rfl rfl rfl (zAw_filter (g := sS (sW g (zupd (gW g) q W')) (eN E)) hA) (fun p t hp => ?_)
      show (zupd (gA g) q ((gA g q).filter (fun a => a.1 != wTo o)) p).any (fun a => a.1 == t) = (if p = q then W' else gW g p).any _
      by_cases e : p = q
      · rw [if_pos e, e, zupd_s, any_filter]
        have h1 : (gA g q).any (fun a => a.1 == t) = (o :: W').any (fun x => wTo x == t) := (hany t).symm
        rw [h1, List.any_cons]
        by_cases d : t = wTo o
        · have ca' : W'.any (fun x => wTo x == wTo o) = false := by simpa using ca
          rw [d, ca']; simp
        · have : (wTo o == t) = false := by simpa using fun y : wTo o = t => d y.symm
          rw [this]; simp [d]
      · rw [if_neg e, zupd_n e]; exact oth p t hp e
theorem nHand_I {T : Tp} {E : Ev} {P : Dg → Prop} {g : Sg} {q s b : Nat} {D : Dg} (hw : zEw T E) (hP : zPcl P) (hq : tv T q) (hs : s < 8) (hDw : zDw D) (hk : ¬ D.1 2 = 5 ∧ ¬ D.1 2 = 6) (hPD : P D) (h : zGI T E P g) : zGI T E P (nHand E b g q s D) := by
  unfold nHand
  by_cases ck : nKnows E g q s = true
  · rw [if_pos ck]
    exact nCarry_I hw hq hP hDw hPD (Or.inr ⟨s, hs, rfl⟩) h
  rw [if_neg ck]
  obtain ⟨⟨h1, h2, h3, h4, h5⟩, h6, h7, h8, h9⟩ := id h
  by_cases ca : nAsked g q s = true
  · rw [if_pos ca]
    refine nWait_I hP hq hs hDw hk hPD h1 h2 h3 h5 (fun p t hp => ?_) h6 h7 h8 h9
    rw [h4 p t hp]
    by_cases e : p = q ∧ t = s
    · have : (gW g p).any (fun x => wTo x == t) = true := by rw [← h4 p t hp, e.1, e.2]; exact ca
      rw [this]; rfl
    · have : (decide (p = q) && decide (t = s)) = false := by
        by_cases e1 : p = q
        · have : ¬ t = s := fun y => e ⟨e1, y⟩
          simp [this]
        · simp [e1]
      rw [this]; simp
  · rw [if_neg ca]
    have ca' : nAsked g q s = false := by simpa using ca
    let g' : Sg := sA g (zupd (gA g) q (gA g q ++ [(s, eN E)]))
    have hAw' : zAw T E g' := by
      intro p hp
      by_cases e : p = q
      · subst e
        have e1 : gA g' p = gA g p ++ [(s, eN E)] := zupd_s _ _ _
        rw [e1]
        obtain ⟨hnd, hin⟩ := h2 p hp
        refine ⟨?_, fun a ha => ?_⟩
        · rw [List.map_append]
          refine List.nodup_append.mpr ⟨hnd, by simp, ?_⟩
          intro x hx y hy
          obtain rfl : y = s := by simpa using hy
          rintro rfl
          obtain ⟨a, ha, rfl⟩ := List.mem_map.mp hx
          have : nAsked g p a.1 = true := List.any_eq_true.mpr ⟨a, ha, by simp⟩
          rw [this] at ca'; cases ca'
        · rcases List.mem_append.mp ha with ha | ha
          · exact hin a ha
          · obtain rfl : a = (s, eN E) := by simpa using ha
            exact ⟨hs, h5, Nat.le_refl _⟩
      · have e1 : gA g' p = gA g p := zupd_n e
        rw [e1]
        exact h2 p hp
    obtain ⟨w1, w2, w3, w4⟩ := nPut_W E g' q (nQ q (dNote q 5 (zad (8 * (q / 8) + s))) (-1) 0 28)
    have eW : gW (nAsk E g' q s) = gW g := w1
    have eA : gA (nAsk E g' q s) = gA g' := w2
    have eH : gH (nAsk E g' q s) = gH g := w4
    have hd := hw.2 _ hq.1
    refine nWait_I hP hq hs hDw hk hPD ?_ ?_ ?_ h5 (fun p t hp => ?_) ?_ ?_ (fun f hf => ?_) ?_
    · unfold zWw at h1 ⊢; rw [eW]; exact h1
    · unfold zAw at hAw' ⊢; rw [eA]; exact hAw'
    · unfold zHw at h3 ⊢; rw [eH]; exact h3
    · unfold nAsked
      rw [eA, eW]
      by_cases e : p = q
      · have e1 : gA g' p = gA g p ++ [(s, eN E)] := by rw [e]; exact zupd_s _ _ _
        rw [e1, List.any_append]
        have h4' : (gA g p).any (fun a => a.1 == t) = (gW g p).any (fun x => wTo x == t) := h4 p t hp
        rw [h4']
        have : ([(s, eN E)] : List (Nat × Nat)).any (fun a => a.1 == t) = decide (t = s) := by
          rw [List.any_cons]
          by_cases e : t = s
          · simp [e]
          · simp [e]; exact fun y : s = t => e y.symm
        rw [this]; simp [e]
      · have e1 : gA g' p = gA g p := zupd_n e
        rw [e1]
        have h4' : (gA g p).any (fun a => a.1 == t) = (gW g p).any (fun x => wTo x == t) := h4 p t hp
        rw [h4']; simp [e]
    · unfold zWk at h6 ⊢; rw [eW]; exact h6
    · rw [eW]; exact h7
    · have hf : f ∈ gF (nPut E g' q (nQ q (dNote q 5 (zad (8 * (q / 8) + s))) (-1) 0 28)) := hf
      rcases nPut_F ⟨hd.2.2.1, hd.2.2.2⟩ hf with hf | ⟨e, e1, e2⟩
      · exact h8 f hf
      · refine ⟨⟨?_, e1, e2, ⟨q, hq, by rw [e]; rfl, by rw [e]; rfl⟩, Or.inl (by rw [e]; rfl)⟩, fun n5 _ => absurd (by rw [e]; rfl) n5⟩
        rw [e]
        exact zDw_cut (zDw_note q 5 _) _ _ _ (by rw [dNote_l]; decide) (by decide)
    · rw [eW]; exact h9
theorem nFold_I {T : Tp} {E : Ev} {P : Dg → Prop} {q s b : Nat} (hw : zEw T E) (hP : zPcl P) (hq : tv T q) (hs : s < 8) : ∀ (l : List Dg) (g : Sg), (∀ D, D ∈ l → zDw D ∧ P D) → zGI T E P g → zGI T E P (l.foldl (fun g x => nCarry E b g q (Int32.ofNat s) x) g) := by
  intro l
  induction l with
  | nil => intro g _ h; exact h
  | cons x l ih =>
    intro g hl h
    rw [List.foldl_cons]
    exact ih _ (fun D hD => hl D (List.mem_cons_of_mem _ hD)) (nCarry_I hw hq hP (hl x List.mem_cons_self).1 (hl x List.mem_cons_self).2 (Or.inr ⟨s, hs, rfl⟩) h)
theorem nFold_W {E : Ev} {q s b : Nat} : ∀ (l : List Dg) (g : Sg), gW (l.foldl (fun g x => nCarry E b g q (Int32.ofNat s) x) g) = gW g ∧ gA (l.foldl (fun g x => nCarry E b g q (Int32.ofNat s) x) g) = gA g ∧ gH (l.foldl (fun g x => nCarry E b g q (Int32.ofNat s) x) g) = gH g := by
  intro l
  induction l with
  | nil => intro g; exact ⟨rfl, rfl, rfl⟩
  | cons x l ih =>
    intro g
    obtain ⟨i1, i2, i3⟩ := ih (nCarry E b g q (Int32.ofNat s) x)
    obtain ⟨c1, c2, c3⟩ := nCarry_W E b g q (Int32.ofNat s) x
    exact ⟨i1.trans c1, i2.trans c2, i3.trans c3⟩
theorem nRel_I {T : Tp} {E : Ev} {P : Dg → Prop} {g : Sg} {q s b : Nat} (hw : zEw T E) (hP : zPcl P) (hq : tv T q) (hs : s < 8) (h : zGI T E P g) : zGI T E P (nRel E b g q s) := by
  have hW := h.1.1
  have hPW := h.2.2.2.2
  have hf := nFold_I (b := b) hw hP hq hs ((gW g q).filter (fun x => wTo x == s)) g (fun D hD => ⟨(hW q hq D (List.mem_filter.mp hD).1).1, hPW q hq D (List.mem_filter.mp hD).1⟩) h
  obtain ⟨f1, f2, f3⟩ := nFold_W (E := E) (q := q) (s := s) (b := b) ((gW g q).filter (fun x => wTo x == s)) g
  unfold nRel
  revert hf f1 f2 f3
  generalize ((gW g q).filter (fun x => wTo x == s)).foldl (fun g x => nCarry E b g q (Int32.ofNat s) x) g = g2
  intro hf f1 f2 f3
  obtain ⟨⟨h1, h2, h3, h4, h5⟩, h6, h7, h8, h9⟩ := hf
  rw [f1] at h7 h9
  have gw : ∀ p, zupd (gW g) q ((gW g q).filter (fun x => wTo x != s)) p = if p = q then (gW g q).filter (fun x => wTo x != s) else gW g p := fun p => rfl
  have sub : ∀ p G, G ∈ zupd (gW g) q ((gW g q).filter (fun x => wTo x != s)) p → G ∈ gW g p := by
    intro p G hG
    rw [gw] at hG
    by_cases e : p = q
    · rw [if_pos e] at hG; rw [e]; exact (List.mem_filter.mp hG).1
    · rw [if_neg e] at hG; exact hG
  refine ⟨⟨fun p hp G hG => hW p hp G (sub p G hG), ?_, h3, fun p t hp => ?_, h5⟩, fun p hp G hG => h.2.1 p hp G (sub p G hG), fun p hp => ?_, h8, fun p hp G hG => hPW p hp G (sub p G hG)⟩
  · have := zAw_filter (q := q) (s := s) h.1.2.1
    unfold zAw at this ⊢
    exact this
  · show (zupd (gA g) q ((gA g q).filter (fun a => a.1 != s)) p).any (fun a => a.1 == t) = (zupd (gW g) q ((gW g q).filter (fun x => wTo x != s)) p).any (fun x => wTo x == t)
    have h4' : (gA g p).any (fun a => a.1 == t) = (gW g p).any (fun x => wTo x == t) := h.1.2.2.2.1 p t hp
    by_cases e : p = q
    · rw [e] at h4' ⊢
      rw [zupd_s, zupd_s, any_filter, anyW_filter, h4']
    · rw [zupd_n e, zupd_n e]; exact h4'
  · show (zupd (gW g) q ((gW g q).filter (fun x => wTo x != s)) p).length ≤ 16
    rw [gw]
    by_cases e : p = q
    · rw [if_pos e]
      have := List.length_filter_le (fun x => wTo x != s) (gW g q)
      have := h7 q hq
      omega
    · rw [if_neg e]; exact h7 p hp
theorem nHeard_I {T : Tp} {E : Ev} {P : Dg → Prop} {g : Sg} {q s b : Nat} (hw : zEw T E) (hP : zPcl P) (hq : tv T q) (hs : s < 8) (h : zGI T E P g) : zGI T E P (nHeard E b g q s) := by
  have hh : zGI T E P (sH g (zupd (gH g) q (zupd (gH g q) s (eN E)))) := by
    obtain ⟨⟨h1, h2, h3, h4, h5⟩, h6, h7, h8, h9⟩ := h
    refine ⟨⟨h1, h2, fun p t hp ht => ?_, h4, h5⟩, h6, h7, h8, h9⟩
    show zupd (gH g) q (zupd (gH g q) s (eN E)) p t ≤ eN E
    by_cases e : p = q
    · rw [e, zupd_s]
      by_cases e2 : t = s
      · rw [e2, zupd_s]; exact Nat.le_refl _
      · rw [zupd_n e2]; exact h3 q t hq ht
    · rw [zupd_n e]; exact h3 p t hp ht
  unfold nHeard
  split
  · exact nRel_I hw hP hq hs hh
  · exact hh
