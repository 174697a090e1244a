/-! what is so of all frames and of all that waits, whatever it is: QF of frames, QW of what waits at a port since its station was asked for, QD of what is put or handed there -/
/-- QW of it says something of an asking alone -/
def dNil : Dg := dNote 0 5 0
def zQI (T : Tp) (QF : Fr → Prop) (QW : Nat → Nat → Dg → Prop) (g : Sg) : Prop := (∀ f, f ∈ gF g → QF f) ∧ (∀ q, tv T q → ∀ D, D ∈ gW g q → QW q (zAf (gA g q) (wTo D)) D) ∧ ∀ q, tv T q → ∀ x, x ∈ gA g q → QW q x.2 dNil
def zDue (E : Ev) (q t : Nat) : Prop := eU E (q / 8) = true ∧ (t = eN E + eD E (q / 8) ∨ t = eN E + 3 * eD E (q / 8) ∨ t = eN E + 4 * eD E (q / 8))
def zQcl (T : Tp) (E : Ev) (QF : Fr → Prop) (QW : Nat → Nat → Dg → Prop) (QD : Nat → Int32 → Dg → Prop) : Prop :=
  (∀ q to D a b t, tv T q → zDw D → QD q to D → a + b ≤ dl D → 1 ≤ b → zct D a b → zDue E q t → QF (t, nQ q D to a b)) ∧
  (∀ q s D a, tv T q → s < 8 → QD q (Int32.ofNat s) D → 1 ≤ a → a ≤ eN E → QW q a dNil → QW q a (dWait D s)) ∧
  (∀ q c D a b t, tv T q → zDw D → QW q c D → QW q c dNil → a + b ≤ dl D → 1 ≤ b → zct D a b → zDue E q t → QF (t, nQ q D (Int32.ofNat (wTo D)) a b)) ∧
  (∀ q to kind addr t, tv T q → (kind = 5 ∨ kind = 6) → zDue E q t → QF (t, nQ q (dNote q kind addr) to 0 28)) ∧
  (∀ q, tv T q → QW q (eN E) dNil)
theorem nPut_Q {E : Ev} {g : Sg} {q : Nat} {D : Dg} {QF : Fr → Prop} (h : ∀ f, f ∈ gF g → QF f) (hD : ∀ t, zDue E q t → QF (t, D)) : ∀ f, f ∈ gF (nPut E g q D) → QF f := by
  intro f hf
  unfold nPut at hf
  by_cases c : eU E (q / 8) = false
  · rw [if_pos c] at hf; exact h f hf
  rw [if_neg c] at hf
  have c' : eU E (q / 8) = true := by simpa using c
  by_cases c1 : (gT g (q / 8)).headD 0 = 1
  · rw [if_pos c1, nPut3_F] at hf; exact h f hf
  rw [if_neg c1] at hf
  by_cases c2 : 512 < (gF g).length + (if (gT g (q / 8)).headD 0 = 2 then 2 else 1)
  · rw [if_pos c2] at hf
    have hf : f ∈ gF (nPut3 E g q) := hf
    rw [nPut3_F] at hf; exact h f hf
  · rw [if_neg c2] at hf
    have hf : f ∈ gF g ++ nArr ((gT g (q / 8)).headD 0) (eN E) (eD E (q / 8)) D := hf
    rcases List.mem_append.mp hf with h' | h'
    · exact h f h'
    · unfold nArr at h'
      split at h'
      · cases h'
      split at h'
      · rcases List.mem_cons.mp h' with e | h'
        · rw [e]; exact hD _ ⟨c', Or.inl rfl⟩
        · obtain rfl : f = (eN E + 3 * eD E (q / 8), D) := by simpa using h'
          exact hD _ ⟨c', Or.inr (Or.inl rfl)⟩
      split at h'
      · obtain rfl : f = (eN E + 4 * eD E (q / 8), D) := by simpa using h'
        exact hD _ ⟨c', Or.inr (Or.inr rfl)⟩
      · obtain rfl : f = (eN E + eD E (q / 8), D) := by simpa using h'
        exact hD _ ⟨c', Or.inl rfl⟩
section ZQ
variable {T : Tp} {E : Ev} {QF : Fr → Prop} {QW : Nat → Nat → Dg → Prop} {QD : Nat → Int32 → Dg → Prop}
theorem zQI_cg {g g' : Sg} (h1 : gF g' = gF g) (h2 : gW g' = gW g) (h3 : gA g' = gA g) (h : zQI T QF QW g) : zQI T QF QW g' := by
  unfold zQI at h ⊢
  rw [h1, h2, h3]; exact h
theorem nPut_QI {g : Sg} {q : Nat} {D : Dg} (h : zQI T QF QW g) (hD : ∀ t, zDue E q t → QF (t, D)) : zQI T QF QW (nPut E g q D) := by
  obtain ⟨e1, e2, -, -⟩ := nPut_W E g q D
  refine ⟨nPut_Q h.1 hD, ?_⟩
  rw [e1, e2]; exact h.2
theorem nCut_Q {q b sz : Nat} {D : Dg} {to : Int32} (hD : ∀ a b t, a + b ≤ dl D → 1 ≤ b → zct D a b → zDue E q t → QF (t, nQ q D to a b)) (hsz : 64 ≤ sz ∧ sz % 8 = 0) : ∀ (k a : Nat) (g : Sg), a % 8 = 0 → zQI T QF QW g → zQI T QF QW (nCut E b q to D sz k a g) := by
  intro k
  induction k with
  | zero => intro a g _ h; exact h
  | succ k ih =>
    intro a g ha h
    unfold nCut
    by_cases c : dl D ≤ a
    · rw [if_pos c]; exact h
    · rw [if_neg c]
      exact ih _ _ (by omega) (nPut_QI h (fun t ht => hD a _ t (by omega) (by omega) ⟨ha, by omega, fun h0 => by omega⟩ ht))
theorem nCarry_Q1 {q b : Nat} {g : Sg} {D : Dg} {to : Int32} (hD : ∀ a b t, a + b ≤ dl D → 1 ≤ b → zct D a b → zDue E q t → QF (t, nQ q D to a b)) (hw : zEw T E) (hq : tv T q) (hDw : zDw D) (h : zQI T QF QW g) : zQI T QF QW (nCarry E b g q to D) := by
  have hd := hw.2 _ hq.1
  unfold nCarry
  split
  · exact nPut_QI h (fun t ht => hD 0 _ t (by omega) hDw.2.2.2.2.2 (zct_all D) ht)
  · exact nCut_Q hD (by omega) _ _ _ rfl h
theorem nCarry_Q {q b : Nat} {g : Sg} {D : Dg} {to : Int32} (hc : zQcl T E QF QW QD) (hw : zEw T E) (hq : tv T q) (hDw : zDw D) (hD : QD q to D) (h : zQI T QF QW g) : zQI T QF QW (nCarry E b g q to D) := nCarry_Q1 (fun a b t h1 h2 h3 h4 => hc.1 q to D a b t hq hDw hD h1 h2 h3 h4) hw hq hDw h
theorem nNote_Q {q : Nat} {g : Sg} {to kind addr : Int32} (hc : zQcl T E QF QW QD) (hq : tv T q) (hk : kind = 5 ∨ kind = 6) (h : zQI T QF QW g) : zQI T QF QW (nNote E g q to kind addr) := nPut_QI h (fun t ht => hc.2.2.2.1 q to kind addr t hq hk ht)
theorem zAf_app {A B : List (Nat × Nat)} {s : Nat} (h : A.any (fun a => a.1 == s) = true) : zAf (A ++ B) s = zAf A s := by
  unfold zAf
  rw [List.find?_append]
  cases e : A.find? (fun a => a.1 == s) with
  | some a => rfl
  | none =>
    rw [List.find?_eq_none] at e
    obtain ⟨a, ha, h2⟩ := List.any_eq_true.mp h
    exact absurd h2 (e a ha)
theorem zAf_is {A : List (Nat × Nat)} {s : Nat} (h : A.any (fun a => a.1 == s) = true) : (s, zAf A s) ∈ A := by
  unfold zAf
  cases e : A.find? (fun a => a.1 == s) with
  | some a =>
    have h1 := List.mem_of_find?_eq_some e
    have h2 : a.1 = s := by simpa using List.find?_some e
    dsimp only
    rw [← h2]; exact h1
  | none =>
    rw [List.find?_eq_none] at e
    obtain ⟨a, ha, h2⟩ := List.any_eq_true.mp h
    exact absurd h2 (e a ha)
theorem nWait_Q {g : Sg} {q s : Nat} {D : Dg} (hc : zQcl T E QF QW QD) (hA : zAw T E g) (hq : tv T q) (hs : s < 8) (hD : QD q (Int32.ofNat s) D) (ha : nAsked g q s = true) (h : zQI T QF QW g) : zQI T QF QW (nWait E g q s D) := by
  have hin := (hA q hq).2 _ (zAf_is ha)
  have new : ∀ G, G ∈ gW g q ++ [dWait D s] → QW q (zAf (gA g q) (wTo G)) G := fun G hG => by
    rcases List.mem_append.mp hG with h' | h'
    · exact h.2.1 q hq G h'
    · obtain rfl : G = dWait D s := by simpa using h'
      rw [dWait_to hs]
      exact hc.2.1 q s D _ hq hs hD hin.2.1 hin.2.2 (h.2.2 q hq _ (zAf_is ha))
  unfold nWait
  by_cases c : (gW g q).length < 16
  · rw [if_pos c]
    refine ⟨h.1, fun p hp G hG => ?_, fun p hp x hx => ?_⟩
    · have hG : G ∈ zupd (gW g) q (gW g q ++ [dWait D s]) p := hG
      show QW p (zAf (gA g p) (wTo G)) G
      by_cases e : p = q
      · subst e; rw [zupd_s] at hG; exact new G hG
      · rw [zupd_n e] at hG; exact h.2.1 p hp G hG
    · exact h.2.2 p hp x hx
  · rw [if_neg c]
    cases hL : gW g q ++ [dWait D s] with
    | nil => exact h
    | cons o W' =>
      dsimp only
      rw [hL] at new
      by_cases c2 : W'.any (fun x => wTo x == wTo o) = true
      · rw [if_pos c2]
        refine ⟨h.1, fun p hp G hG => ?_, fun p hp x hx => ?_⟩
        · have hG : G ∈ zupd (gW g) q W' p := hG
          show QW p (zAf (gA g p) (wTo G)) G
          by_cases e : p = q
          · subst e; rw [zupd_s] at hG; exact new G (List.mem_cons_of_mem _ hG)
          · rw [zupd_n e] at hG; exact h.2.1 p hp G hG
        · exact h.2.2 p hp x hx
      · rw [if_neg c2]
        refine ⟨h.1, fun p hp G hG => ?_, fun p hp x hx => ?_⟩
        · have hG : G ∈ zupd (gW g) q W' p := hG
          show QW p (zAf (zupd (gA g) q ((gA g q).filter (fun a => a.1 != wTo o)) p) (wTo G)) G
          by_cases e : p = q
          · subst e
            rw [zupd_s] at hG ⊢
            rw [zAf_filter, if_neg (fun y => c2 (List.any_eq_true.mpr ⟨G, hG, by simpa using y⟩))]
            exact new G (List.mem_cons_of_mem _ hG)
          · rw [zupd_n e] at hG ⊢; exact h.2.1 p hp G hG
        · have hx : x ∈ zupd (gA g) q ((gA g q).filter (fun a => a.1 != wTo o)) p := hx
          by_cases e : p = q
          · subst e; rw [zupd_s] at hx; exact h.2.2 p hp x (List.mem_filter.mp hx).1
          · rw [zupd_n e] at hx; exact h.2.2 p hp x hx
theorem nHand_Q {g : Sg} {q s b : Nat} {D : Dg} (hc : zQcl T E QF QW QD) (hw : zEw T E) (hA : zAw T E g) (hn : 1 ≤ eN E) (hWA : ∀ G, G ∈ gW g q → nAsked g q (wTo G) = true) (hq : tv T q) (hs : s < 8) (hDw : zDw D) (hD : QD q (Int32.ofNat s) D) (h : zQI T QF QW g) : zQI T QF QW (nHand E b g q s D) := by
  unfold nHand
  by_cases c : nKnows E g q s = true
  · rw [if_pos c]; exact nCarry_Q hc hw hq hDw hD h
  rw [if_neg c]
  by_cases c2 : nAsked g q s = true
  · rw [if_pos c2]; exact nWait_Q hc hA hq hs hD c2 h
  · rw [if_neg c2]
    let g1 : Sg := sA g (zupd (gA g) q (gA g q ++ [(s, eN E)]))
    have h1 : zQI T QF QW g1 := by
      refine ⟨h.1, fun p hp G hG => ?_, fun p hp x hx => ?_⟩
      · have hG : G ∈ gW g p := hG
        show QW p (zAf (zupd (gA g) q (gA g q ++ [(s, eN E)]) p) (wTo G)) G
        by_cases e : p = q
        · subst e
          rw [zupd_s, zAf_app (hWA G hG)]; exact h.2.1 p hp G hG
        · rw [zupd_n e]; exact h.2.1 p hp G hG
      · have hx : x ∈ zupd (gA g) q (gA g q ++ [(s, eN E)]) p := hx
        by_cases e : p = q
        · subst e
          rw [zupd_s] at hx
          rcases List.mem_append.mp hx with h' | h'
          · exact h.2.2 p hp x h'
          · obtain rfl : x = (s, eN E) := by simpa using h'
            exact hc.2.2.2.2 p hp
        · rw [zupd_n e] at hx; exact h.2.2 p hp x hx
    have A1 : zAw T E g1 := by
      intro p hp
      show ((zupd (gA g) q (gA g q ++ [(s, eN E)]) p).map (fun a => a.1)).Nodup ∧ ∀ a, a ∈ zupd (gA g) q (gA g q ++ [(s, eN E)]) p → a.1 < 8 ∧ 1 ≤ a.2 ∧ a.2 ≤ eN E
      by_cases e : p = q
      · subst e
        rw [zupd_s, List.map_append]
        obtain ⟨hn1, hn2⟩ := hA p hp
        refine ⟨?_, fun a ha => ?_⟩
        · rw [List.nodup_append]
          refine ⟨hn1, by simp, fun x hx y hy => ?_⟩
          have hy : y = s := by simpa using hy
          intro exy
          obtain ⟨a, ha, hax⟩ := List.mem_map.mp hx
          exact c2 (List.any_eq_true.mpr ⟨a, ha, by simp; omega⟩)
        · rcases List.mem_append.mp ha with h' | h'
          · exact hn2 a h'
          · obtain rfl : a = (s, eN E) := by simpa using h'
            exact ⟨hs, hn, Nat.le_refl _⟩
      · rw [zupd_n e]; exact hA p hp
    obtain ⟨e1, e2, -, e4⟩ := nPut_W E g1 q (nQ q (dNote q 5 (zad (8 * (q / 8) + s))) (-1) 0 28)
    refine nWait_Q hc ?_ hq hs hD ?_ (nNote_Q hc hq (Or.inl rfl) h1)
    · have : gA (nAsk E g1 q s) = gA g1 := e2
      unfold zAw at A1 ⊢
      rw [this]; exact A1
    · have : gA (nAsk E g1 q s) = gA g1 := e2
      unfold nAsked
      rw [this]
      show (zupd (gA g) q (gA g q ++ [(s, eN E)]) q).any _ = true
      rw [zupd_s, List.any_append]
      simp
theorem nGo_Q {Wy : Wyt} {g : Sg} {b : Nat} {D : Dg} {goal : Int32} (hc : zQcl T E QF QW QD) (hw : zEw T E) (hT : zTc T) (hWw : zWyw T Wy) (hb : b < tb T) (hA : zAw T E g) (hn : 1 ≤ eN E) (hWA : ∀ q G, tv T q → G ∈ gW g q → nAsked g q (wTo G) = true) (hDw : zDw D) (hD : ∀ q s, tv T q → tw T q = b → s < 8 → rt T Wy b goal = some (q, s) → QD q (Int32.ofNat s) D) (h : zQI T QF QW g) : zQI T QF QW (nGo E b g D (rt T Wy b goal)) := by
  cases e : rt T Wy b goal with
  | none => exact h
  | some v =>
    obtain ⟨a1, a2, a3⟩ := rt_some (q := v.1) (s := v.2) hT hWw hb e
    exact nHand_Q hc hw hA hn (fun G hG => hWA v.1 G a1 hG) a1 a3 hDw (hD v.1 v.2 a1 a2 a3 e) h
theorem nFold_Q {q s b : Nat} (hw : zEw T E) (hq : tv T q) : ∀ (l : List Dg) (g : Sg), (∀ D, D ∈ l → zDw D ∧ ∀ a b t, a + b ≤ dl D → 1 ≤ b → zct D a b → zDue E q t → QF (t, nQ q D (Int32.ofNat s) a b)) → zQI T QF QW g → zQI T QF QW (l.foldl (fun g x => nCarry E b g q (Int32.ofNat s) x) g) := by
  intro l
  induction l with
  | nil => intro g _ h; exact h
  | cons x l ih =>
    intro g hl h
    rw [List.foldl_cons]
    exact ih _ (fun D hD => hl D (List.mem_cons_of_mem _ hD)) (nCarry_Q1 (hl x List.mem_cons_self).2 hw hq (hl x List.mem_cons_self).1 h)
/-- what ends with an asking is no more in the row -/
theorem zQI_end {g g2 : Sg} {q s : Nat} (h : zQI T QF QW g) (hF : ∀ f, f ∈ gF g2 → QF f) (hW : gW g2 = zupd (gW g) q ((gW g q).filter (fun x => wTo x != s))) (hA : gA g2 = zupd (gA g) q ((gA g q).filter (fun a => a.1 != s))) : zQI T QF QW g2 := by
  refine ⟨hF, fun p hp G hG => ?_, fun p hp x hx => ?_⟩
  · rw [hW] at hG
    rw [hA]
    by_cases e : p = q
    · subst e
      rw [zupd_s] at hG ⊢
      obtain ⟨h1, h2⟩ := List.mem_filter.mp hG
      rw [zAf_filter, if_neg (fun y => by rw [y] at h2; simp at h2)]
      exact h.2.1 p hp G h1
    · rw [zupd_n e] at hG ⊢; exact h.2.1 p hp G hG
  · rw [hA] at hx
    by_cases e : p = q
    · subst e
      rw [zupd_s] at hx
      exact h.2.2 p hp x (List.mem_filter.mp hx).1
    · rw [zupd_n e] at hx; exact h.2.2 p hp x hx
theorem nRel_Q {g : Sg} {q s b : Nat} (hc : zQcl T E QF QW QD) (hw : zEw T E) (hWw : zWw T g) (hq : tv T q) (ha : nAsked g q s = true) (h : zQI T QF QW g) : zQI T QF QW (nRel E b g q s) := by
  have hf := nFold_Q (b := b) (s := s) hw hq ((gW g q).filter (fun x => wTo x == s)) g (fun D hD => by
    obtain ⟨h1, h2⟩ := List.mem_filter.mp hD
    have h3 : wTo D = s := by simpa using h2
    have hd := (hWw q hq D h1).1
    exact ⟨hd, fun a b t k1 k2 k3 k4 => by rw [← h3]; exact hc.2.2.1 q _ D a b t hq hd (h.2.1 q hq D h1) (by rw [h3]; exact h.2.2 q hq _ (zAf_is ha)) k1 k2 k3 k4⟩) h
  obtain ⟨-, f2, -⟩ := nFold_W (E := E) (q := q) (s := s) (b := b) ((gW g q).filter (fun x => wTo x == s)) g
  exact zQI_end (s := s) h hf.1 rfl rfl
theorem nHeard_Q {g : Sg} {q s b : Nat} (hc : zQcl T E QF QW QD) (hw : zEw T E) (hWw : zWw T g) (hq : tv T q) (h : zQI T QF QW g) : zQI T QF QW (nHeard E b g q s) := by
  unfold nHeard
  split
  · rename_i c
    exact nRel_Q hc hw hWw hq (g := sH g _) c h
  · exact h
end ZQ
/-- a box sends one datagram, or nothing -/
def zGs (T : Tp) (E : Ev) (Wy : Wyt) (b : Nat) (QS : Dg → Prop) (g g' : Sg) : Prop := g' = g ∨ ∃ D goal, zDw D ∧ QS D ∧ g' = nGo E b g D (rt T Wy b goal)
theorem zGs_Q {T : Tp} {E : Ev} {QF : Fr → Prop} {QW : Nat → Nat → Dg → Prop} {QD : Nat → Int32 → Dg → Prop} {Wy : Wyt} {QS : Dg → Prop} {g g' : Sg} {b : Nat} (hc : zQcl T E QF QW QD) (hw : zEw T E) (hT : zTc T) (hWw : zWyw T Wy) (hb : b < tb T) (hg : zGw T E g) (hD : ∀ D q s, QS D → tv T q → tw T q = b → s < 8 → QD q (Int32.ofNat s) D) (h : zQI T QF QW g) (hs : zGs T E Wy b QS g g') : zQI T QF QW g' := by
  rcases hs with hs | ⟨D, goal, h1, h2, h3⟩
  · rw [hs]; exact h
  · rw [h3]
    exact nGo_Q hc hw hT hWw hb hg.2.1 hg.2.2.2.2 (fun q G hq hG => by
      rw [hg.2.2.2.1 q _ hq]; exact List.any_eq_true.mpr ⟨G, hG, by simp⟩) h1 (fun q s a b c _ => hD D q s h2 a b c) h
theorem zGs_mono {T : Tp} {E : Ev} {Wy : Wyt} {b : Nat} {QS QS' : Dg → Prop} {g g' : Sg} (h : ∀ D, QS D → QS' D) (hs : zGs T E Wy b QS g g') : zGs T E Wy b QS' g g' := by
  rcases hs with hs | ⟨D, goal, h1, h2, h3⟩
  · exact Or.inl hs
  · exact Or.inr ⟨D, goal, h1, h D h2, h3⟩
