/-! what waits for a station is taken out before or after: the order doesn't matter -/
def wrem (s : Nat) : Nat → List Dg → List Dg
  | _, [] => []
  | 0, L => L
  | k + 1, D :: L => if wTo D = s then wrem s k L else D :: wrem s (k + 1) L
theorem wrem_0 (s : Nat) (L : List Dg) : wrem s 0 L = L := by cases L <;> rfl
theorem wrem_len (s : Nat) : ∀ (L : List Dg) (k : Nat), (wrem s k L).length ≤ L.length := by
  intro L
  induction L with
  | nil => intro k; cases k <;> exact Nat.le_refl _
  | cons D L ih =>
    intro k
    cases k with
    | zero => exact Nat.le_refl _
    | succ k =>
      show (if wTo D = s then wrem s k L else D :: wrem s (k + 1) L).length ≤ _
      split
      · exact Nat.le_succ_of_le (ih k)
      · exact Nat.succ_le_succ (ih (k + 1))
theorem wrem_app (s : Nat) (M : List Dg) : ∀ (L : List Dg) (k : Nat), k ≤ (L.filter (fun x => wTo x == s)).length → wrem s k (L ++ M) = wrem s k L ++ M := by
  intro L
  induction L with
  | nil =>
    intro k h
    obtain rfl : k = 0 := by simpa using h
    rw [wrem_0, wrem_0]
  | cons D L ih =>
    intro k h
    cases k with
    | zero => rfl
    | succ k =>
      show (if wTo D = s then wrem s k (L ++ M) else D :: wrem s (k + 1) (L ++ M)) = (if wTo D = s then wrem s k L else D :: wrem s (k + 1) L) ++ M
      by_cases c : wTo D = s
      · rw [if_pos c, if_pos c]
        refine ih k ?_
        rw [List.filter_cons, if_pos (by simpa using c)] at h
        simpa using h
      · rw [if_neg c, if_neg c, ih (k + 1) (by rw [List.filter_cons, if_neg (by simpa using c)] at h; exact h)]; rfl
theorem wrem_step {s k : Nat} {D : Dg} {B : List Dg} : ∀ (A : List Dg), A.filter (fun x => wTo x == s) = [] → wTo D = s → wrem s (k + 1) (A ++ D :: B) = wrem s k (A ++ B) := by
  intro A
  induction A with
  | nil =>
    intro _ h
    show (if wTo D = s then wrem s k B else D :: wrem s (k + 1) B) = _
    rw [if_pos h]; rfl
  | cons F A ih =>
    intro hA h
    have c : ¬ wTo F = s := fun y => by
      rw [List.filter_cons, if_pos (by simpa using y)] at hA; cases hA
    rw [List.filter_cons, if_neg (by simpa using c)] at hA
    show (if wTo F = s then wrem s k (A ++ D :: B) else F :: wrem s (k + 1) (A ++ D :: B)) = wrem s k (F :: (A ++ B))
    rw [if_neg c, ih hA h]
    cases k with
    | zero => rw [wrem_0, wrem_0]
    | succ k =>
      show _ = (if wTo F = s then _ else _)
      rw [if_neg c]
theorem wrem_all (s : Nat) : ∀ (L : List Dg), wrem s (L.filter (fun x => wTo x == s)).length L = L.filter (fun x => wTo x != s) := by
  intro L
  induction L with
  | nil => rfl
  | cons D L ih =>
    by_cases c : wTo D = s
    · rw [List.filter_cons, if_pos (by simpa using c), List.filter_cons, if_neg (by simpa using c)]
      show (if wTo D = s then wrem s _ L else _) = _
      rw [if_pos c]; exact ih
    · rw [List.filter_cons, if_neg (by simpa using c), List.filter_cons, if_pos (by simpa using c), ← ih]
      cases h : (L.filter (fun x => wTo x == s)).length with
      | zero => rw [wrem_0, wrem_0]
      | succ k =>
        show (if wTo D = s then _ else D :: wrem s (k + 1) L) = _
        rw [if_neg c]
/-- the network with the first k for a station taken out of a port's row -/
def gRem (g : Sg) (q s k : Nat) : Sg := sW g (zupd (gW g) q (wrem s k (gW g q)))
theorem zupd_cm {α : Type} (f : Nat → α) {p q : Nat} (h : p ≠ q) (u v : α) : zupd (zupd f p u) q v = zupd (zupd f q v) p u := by
  funext i
  show (if _ then _ else (if _ then _ else _)) = (if _ then _ else (if _ then _ else _))
  by_cases a : i = q
  · rw [if_pos a, if_neg (fun y => h (by rw [← y, a])), if_pos a]
  · rw [if_neg a, if_neg a]
theorem nWait_rem {E : Ev} {g : Sg} {q s k p t : Nat} {D : Dg} (hl : (gW g q).length < 16) (hk : k ≤ ((gW g q).filter (fun x => wTo x == s)).length) : nWait E (gRem g q s k) p t D = gRem (nWait E g p t D) q s k := by
  have hv : gW (gRem g q s k) = zupd (gW g) q (wrem s k (gW g q)) := rfl
  by_cases e : p = q
  · subst e
    have h1 : gW (gRem g p s k) p = wrem s k (gW g p) := by rw [hv]; exact if_pos rfl
    have := wrem_len s (gW g p) k
    unfold nWait
    rw [h1, if_pos (by omega), if_pos hl, hv, zupd_zupd]
    show _ = sW (sW g _) (zupd (zupd (gW g) p (gW g p ++ [dWait D t])) p (wrem s k ((zupd (gW g) p (gW g p ++ [dWait D t])) p)))
    have h2 : (zupd (gW g) p (gW g p ++ [dWait D t])) p = gW g p ++ [dWait D t] := if_pos rfl
    rw [h2, zupd_zupd, wrem_app s _ _ _ hk]
    rfl
  · have h1 : gW (gRem g q s k) p = gW g p := by rw [hv]; exact if_neg e
    unfold nWait
    rw [h1]
    have hqp : ∀ V : List Dg, (zupd (gW g) p V) q = gW g q := fun V => if_neg (fun y => e y.symm)
    by_cases c : (gW g p).length < 16
    · rw [if_pos c, if_pos c, hv]
      show sW (sW g _) (zupd (zupd (gW g) q _) p _) = sW (sW g _) (zupd (zupd (gW g) p _) q (wrem s k ((zupd (gW g) p _) q)))
      rw [hqp, zupd_cm (gW g) e]
      rfl
    · rw [if_neg c, if_neg c]
      cases hL : gW g p ++ [dWait D t] with
      | nil => rfl
      | cons o W' =>
        dsimp only
        by_cases c2 : W'.any (fun x => wTo x == wTo o) = true
        · rw [if_pos c2, if_pos c2, hv]
          show sS (sW (sW g _) (zupd (zupd (gW g) q _) p _)) _ = sW (sS (sW g _) _) (zupd (zupd (gW g) p _) q (wrem s k ((zupd (gW g) p _) q)))
          rw [hqp, zupd_cm (gW g) e]
          rfl
        · rw [if_neg c2, if_neg c2, hv]
          show sA (sS (sW (sW g _) (zupd (zupd (gW g) q _) p _)) _) _ = sW (sA (sS (sW g _) _) _) (zupd (zupd (gW g) p _) q (wrem s k ((zupd (gW g) p _) q)))
          rw [hqp, zupd_cm (gW g) e]
          rfl
theorem nHand_rem {E : Ev} {g : Sg} {q s k p t b : Nat} {D : Dg} (hl : (gW g q).length < 16) (hk : k ≤ ((gW g q).filter (fun x => wTo x == s)).length) : nHand E b (gRem g q s k) p t D = gRem (nHand E b g p t D) q s k := by
  unfold nHand
  have h1 : nKnows E (gRem g q s k) p t = nKnows E g p t := rfl
  have h2 : nAsked (gRem g q s k) p t = nAsked g p t := rfl
  rw [h1, h2]
  by_cases c : nKnows E g p t = true
  · rw [if_pos c, if_pos c]
    unfold gRem
    rw [nCarry_sW, (nCarry_W E b g p (Int32.ofNat t) D).1]
  rw [if_neg c, if_neg c]
  by_cases c2 : nAsked g p t = true
  · rw [if_pos c2, if_pos c2, nWait_rem hl hk]
  · rw [if_neg c2, if_neg c2]
    have e1 : nAsk E (sA (gRem g q s k) (zupd (gA (gRem g q s k)) p (gA (gRem g q s k) p ++ [(t, eN E)]))) p t = gRem (nAsk E (sA g (zupd (gA g) p (gA g p ++ [(t, eN E)]))) p t) q s k := by
      unfold nAsk nNote gRem
      have : sA (sW g (zupd (gW g) q (wrem s k (gW g q)))) (zupd (gA (sW g (zupd (gW g) q (wrem s k (gW g q))))) p (gA (sW g (zupd (gW g) q (wrem s k (gW g q)))) p ++ [(t, eN E)])) = sW (sA g (zupd (gA g) p (gA g p ++ [(t, eN E)]))) (zupd (gW g) q (wrem s k (gW g q))) := rfl
      rw [this, nPut_sW]
      have e2 : gW (nPut E (sA g (zupd (gA g) p (gA g p ++ [(t, eN E)]))) p (nQ p (dNote p 5 (zad (8 * (p / 8) + t))) (-1) 0 28)) = gW g := (nPut_W E _ p _).1
      rw [e2]
    have e3 : gW (nAsk E (sA g (zupd (gA g) p (gA g p ++ [(t, eN E)]))) p t) = gW g := (nPut_W E _ p _).1
    rw [e1, nWait_rem (by rw [e3]; exact hl) (by rw [e3]; exact hk)]
