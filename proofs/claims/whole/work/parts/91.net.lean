/-! the network: frames, what waits, askings, schedules; the same for class and reference -/
/-- a datagram or a piece of one: its head by the class's fields (0 source, 1 goal, 2 kind, 3 number, 4 lives, 5 offset, 6 length, 7 whole, 9 maker, 10 port, 11 to, 12 net, 13 from), and the bytes of its whole payload -/
abbrev Dg : Type := (Nat → Int32) × (Nat → Int32)
abbrev Fr : Type := Nat × Dg
def dl (D : Dg) : Nat := (D.1 6).toNatClampNeg
def df (D : Dg) : Nat := (D.1 5).toNatClampNeg
def dw (D : Dg) : Nat := (D.1 7).toNatClampNeg
def zDw (D : Dg) : Prop := D.1 6 = Int32.ofNat (dl D) ∧ D.1 5 = Int32.ofNat (df D) ∧ D.1 7 = Int32.ofNat (dw D) ∧ df D + dl D ≤ dw D ∧ dw D ≤ 1480 ∧ 1 ≤ dl D
/-- a part of a datagram, for a station, on a net, from a station -/
def dCut (D : Dg) (at_ size : Nat) (t n s : Int32) : Dg := (fun j => if j = 5 then Int32.ofNat (df D + at_) else if j = 6 then Int32.ofNat size else if j = 11 then t else if j = 12 then n else if j = 13 then s else D.1 j, D.2)
theorem dCut_l {D : Dg} {a b : Nat} {t n s : Int32} (h : b < 2147483648) : dl (dCut D a b t n s) = b := zoC h
theorem dCut_f {D : Dg} {a b : Nat} {t n s : Int32} (h : df D + a < 2147483648) : df (dCut D a b t n s) = df D + a := zoC h
theorem dCut_w {D : Dg} {a b : Nat} {t n s : Int32} : dw (dCut D a b t n s) = dw D := rfl
theorem zDw_cut {D : Dg} (h : zDw D) {a b : Nat} (t n s : Int32) (h1 : a + b ≤ dl D) (h2 : 1 ≤ b) : zDw (dCut D a b t n s) := by
  obtain ⟨h6, h5, h7, hl, hw, h1'⟩ := h
  have e1 := dCut_l (D := D) (a := a) (t := t) (n := n) (s := s) (show b < 2147483648 by omega)
  have e2 := dCut_f (D := D) (b := b) (t := t) (n := n) (s := s) (show df D + a < 2147483648 by omega)
  refine ⟨?_, ?_, ?_, ?_, ?_, ?_⟩
  · rw [e1]; rfl
  · rw [e2]; rfl
  · rw [dCut_w]; exact h7
  · rw [e1, e2, dCut_w]; omega
  · rw [dCut_w]; exact hw
  · rw [e1]; exact h2
abbrev Ev : Type := Nat × (Nat → Nat) × (Nat → Nat) × (Nat → Bool)
def eN (E : Ev) : Nat := E.1
def eL (E : Ev) : Nat → Nat := E.2.1
def eD (E : Ev) : Nat → Nat := E.2.2.1
def eU (E : Ev) : Nat → Bool := E.2.2.2
/-- frames; what waits at a port; its askings (station, time); fates of a net; frames put; pieces cut; the last stirring; when a port heard a station -/
abbrev Sg : Type := List Fr × (Nat → List Dg) × (Nat → List (Nat × Nat)) × (Nat → List Int32) × (Nat → Int32) × (Nat → Int32) × Nat × (Nat → Nat → Nat)
def gF (g : Sg) : List Fr := g.1
def gW (g : Sg) : Nat → List Dg := g.2.1
def gA (g : Sg) : Nat → List (Nat × Nat) := g.2.2.1
def gT (g : Sg) : Nat → List Int32 := g.2.2.2.1
def gP (g : Sg) : Nat → Int32 := g.2.2.2.2.1
def gC (g : Sg) : Nat → Int32 := g.2.2.2.2.2.1
def gS (g : Sg) : Nat := g.2.2.2.2.2.2.1
def gH (g : Sg) : Nat → Nat → Nat := g.2.2.2.2.2.2.2
def sF (g : Sg) (v : List Fr) : Sg := (v, g.2)
def sW (g : Sg) (v : Nat → List Dg) : Sg := (g.1, v, g.2.2)
def sA (g : Sg) (v : Nat → List (Nat × Nat)) : Sg := (g.1, g.2.1, v, g.2.2.2)
def sT (g : Sg) (v : Nat → List Int32) : Sg := (g.1, g.2.1, g.2.2.1, v, g.2.2.2.2)
def sP (g : Sg) (v : Nat → Int32) : Sg := (g.1, g.2.1, g.2.2.1, g.2.2.2.1, v, g.2.2.2.2.2)
def sC (g : Sg) (v : Nat → Int32) : Sg := (g.1, g.2.1, g.2.2.1, g.2.2.2.1, g.2.2.2.2.1, v, g.2.2.2.2.2.2)
def sS (g : Sg) (v : Nat) : Sg := (g.1, g.2.1, g.2.2.1, g.2.2.2.1, g.2.2.2.2.1, g.2.2.2.2.2.1, v, g.2.2.2.2.2.2.2)
def sH (g : Sg) (v : Nat → Nat → Nat) : Sg := (g.1, g.2.1, g.2.2.1, g.2.2.2.1, g.2.2.2.2.1, g.2.2.2.2.2.1, g.2.2.2.2.2.2.1, v)
def zupd {α : Type} (f : Nat → α) (k : Nat) (v : α) : Nat → α := fun i => if i = k then v else f i
theorem zupd_s {α : Type} (f : Nat → α) (k : Nat) (v : α) : zupd f k v k = v := if_pos rfl
theorem zupd_n {α : Type} {f : Nat → α} {k i : Nat} {v : α} (h : i ≠ k) : zupd f k v i = f i := if_neg h
/-- the frames that a fate makes of one that is put at a time on a net with a delay -/
def nArr (f : Int32) (now d : Nat) (D : Dg) : List Fr := if f = 1 then [] else if f = 2 then [(now + d, D), (now + 3 * d, D)] else if f = 3 then [(now + 4 * d, D)] else [(now + d, D)]
/-- a frame is put on the net of a port -/
def nPut1 (g : Sg) (q : Nat) : Sg := sP g (zupd (gP g) (q / 8) (gP g (q / 8) + 1))
def nPut2 (g : Sg) (q : Nat) : Sg := sT (nPut1 g q) (zupd (gT g) (q / 8) (gT g (q / 8)).tail)
def nPut3 (E : Ev) (g : Sg) (q : Nat) : Sg := if (gT g (q / 8)).headD 0 = 0 then nPut2 g q else sS (nPut2 g q) (eN E)
def nPut (E : Ev) (g : Sg) (q : Nat) (D : Dg) : Sg :=
  if eU E (q / 8) = false then nPut1 g q else
  if (gT g (q / 8)).headD 0 = 1 then nPut3 E g q else
  if 512 < (gF g).length + (if (gT g (q / 8)).headD 0 = 2 then 2 else 1) then sS (nPut3 E g q) (eN E) else
  sF (nPut3 E g q) (gF g ++ nArr ((gT g (q / 8)).headD 0) (eN E) (eD E (q / 8)) D)
def nQ (q : Nat) (D : Dg) (to : Int32) (a b : Nat) : Dg := dCut D a b to (Int32.ofNat (q / 8)) (Int32.ofNat (q % 8))
/-- pieces of a datagram are put, one after the other -/
def nCut (E : Ev) (b q : Nat) (to : Int32) (D : Dg) (sz : Nat) : Nat → Nat → Sg → Sg
  | 0, _, g => g
  | k + 1, a, g => if dl D ≤ a then g else nCut E b q to D sz k (a + sz) (nPut E (sC g (zupd (gC g) b (gC g b + 1))) q (nQ q D to a (min sz (dl D - a))))
/-- a datagram is put, cut if it is too large; b is the port's box -/
def nCarry (E : Ev) (b : Nat) (g : Sg) (q : Nat) (to : Int32) (D : Dg) : Sg :=
  if dl D ≤ eL E (q / 8) - 20 then nPut E g q (nQ q D to 0 (dl D))
  else nCut E b q to D ((eL E (q / 8) - 20) / 8 * 8) 1480 0 g
/-- an asking (5) or an answer (6) -/
def dNote (q : Nat) (kind addr : Int32) : Dg := (fun j => if j = 0 then zad q else if j = 1 then addr else if j = 2 then kind else if j = 4 then 1 else if j = 6 then 28 else if j = 7 then 28 else 0, fun _ => 0)
def nNote (E : Ev) (g : Sg) (q : Nat) (to kind addr : Int32) : Sg := nPut E g q (nQ q (dNote q kind addr) to 0 28)
def nKnows (E : Ev) (g : Sg) (q s : Nat) : Bool := decide (0 < gH g q s) && decide (eN E - gH g q s ≤ 2500)
def dWait (D : Dg) (s : Nat) : Dg := dCut D 0 (dl D) (Int32.ofNat s) 0 0
def nAsked (g : Sg) (q s : Nat) : Bool := (gA g q).any (fun a => a.1 == s)
def wTo (D : Dg) : Nat := (D.1 11).toNatClampNeg
def nAsk (E : Ev) (g : Sg) (q s : Nat) : Sg := nNote E g q (-1) 5 (zad (8 * (q / 8) + s))
/-- one more waits at a port; of too many the oldest is gone -/
def nWait (E : Ev) (g : Sg) (q s : Nat) (D : Dg) : Sg :=
  if (gW g q).length < 16 then sW g (zupd (gW g) q (gW g q ++ [dWait D s])) else
  match gW g q ++ [dWait D s] with
  | [] => g
  | o :: W' => if W'.any (fun x => wTo x == wTo o) = true then sS (sW g (zupd (gW g) q W')) (eN E) else sA (sS (sW g (zupd (gW g) q W')) (eN E)) (zupd (gA g) q ((gA g q).filter (fun a => a.1 != wTo o)))
/-- a datagram for a station is put, or waits until that is known -/
def nHand (E : Ev) (b : Nat) (g : Sg) (q s : Nat) (D : Dg) : Sg :=
  if nKnows E g q s = true then nCarry E b g q (Int32.ofNat s) D else
  if nAsked g q s = true then nWait E g q s D else
  nWait E (nAsk E (sA g (zupd (gA g) q (gA g q ++ [(s, eN E)]))) q s) q s D
/-- all that waits for a station is put -/
def nRel (E : Ev) (b : Nat) (g : Sg) (q s : Nat) : Sg :=
  sA (sW (((gW g q).filter (fun x => wTo x == s)).foldl (fun g x => nCarry E b g q (Int32.ofNat s) x) g) (zupd (gW g) q ((gW g q).filter (fun x => wTo x != s)))) (zupd (gA g) q ((gA g q).filter (fun a => a.1 != s)))
/-! what a step of the network leaves as it was -/
theorem nPut3_W (E : Ev) (g : Sg) (q : Nat) : gW (nPut3 E g q) = gW g ∧ gA (nPut3 E g q) = gA g ∧ gC (nPut3 E g q) = gC g ∧ gH (nPut3 E g q) = gH g := by
  unfold nPut3
  split
  · exact ⟨rfl, rfl, rfl, rfl⟩
  · exact ⟨rfl, rfl, rfl, rfl⟩
theorem nPut_W (E : Ev) (g : Sg) (q : Nat) (D : Dg) : gW (nPut E g q D) = gW g ∧ gA (nPut E g q D) = gA g ∧ gC (nPut E g q D) = gC g ∧ gH (nPut E g q D) = gH g := by
  have h := nPut3_W E g q
  unfold nPut
  split
  · exact ⟨rfl, rfl, rfl, rfl⟩
  split
  · exact h
  split <;> split <;> exact h
theorem nCut_W (E : Ev) (b q : Nat) (to : Int32) (D : Dg) (sz : Nat) : ∀ (k a : Nat) (g : Sg), gW (nCut E b q to D sz k a g) = gW g ∧ gA (nCut E b q to D sz k a g) = gA g ∧ gH (nCut E b q to D sz k a g) = gH g := by
  intro k
  induction k with
  | zero => intro a g; exact ⟨rfl, rfl, rfl⟩
  | succ k ih =>
    intro a g
    unfold nCut
    by_cases c : dl D ≤ a
    · rw [if_pos c]; exact ⟨rfl, rfl, rfl⟩
    · rw [if_neg c]
      obtain ⟨i1, i2, i3⟩ := ih (a + sz) (nPut E (sC g (zupd (gC g) b (gC g b + 1))) q (nQ q D to a (min sz (dl D - a))))
      obtain ⟨p1, p2, -, p4⟩ := nPut_W E (sC g (zupd (gC g) b (gC g b + 1))) q (nQ q D to a (min sz (dl D - a)))
      exact ⟨i1.trans p1, i2.trans p2, i3.trans p4⟩
theorem nCarry_W (E : Ev) (b : Nat) (g : Sg) (q : Nat) (to : Int32) (D : Dg) : gW (nCarry E b g q to D) = gW g ∧ gA (nCarry E b g q to D) = gA g ∧ gH (nCarry E b g q to D) = gH g := by
  unfold nCarry
  split
  · obtain ⟨p1, p2, -, p4⟩ := nPut_W E g q (nQ q D to 0 (dl D))
    exact ⟨p1, p2, p4⟩
  · exact nCut_W E b q to D _ 1480 0 g
/-! rows of references: chains -/
def zChn (nx : Nat → Option Nat) : Option Nat → List Nat → Prop
  | h, [] => h = none
  | h, a :: l => h = some a ∧ zChn nx (nx a) l
theorem zChn_cg {nx nx' : Nat → Option Nat} : ∀ {l : List Nat} {h : Option Nat}, (∀ a, a ∈ l → nx' a = nx a) → zChn nx h l → zChn nx' h l := by
  intro l
  induction l with
  | nil => intro h _ c; exact c
  | cons a l ih =>
    intro h e c
    obtain ⟨c1, c2⟩ := c
    refine ⟨c1, ?_⟩
    rw [e a List.mem_cons_self]
    exact ih (fun b hb => e b (List.mem_cons_of_mem _ hb)) c2
/-- a chain with one more at its end -/
theorem zChn_app {nx nx' : Nat → Option Nat} {x : Nat} (hx : nx' x = none) : ∀ {l : List Nat} {h : Option Nat}, l.Nodup → x ∉ l → (∀ a, a ∈ l → nx' a = if l.getLast? = some a then some x else nx a) → zChn nx h l → zChn nx' (if l = [] then some x else h) (l ++ [x]) := by
  intro l
  induction l with
  | nil =>
    intro h _ _ _ c
    rw [if_pos rfl]
    exact ⟨rfl, hx⟩
  | cons a l ih =>
    intro h hn hm e c
    obtain ⟨c1, c2⟩ := c
    rw [if_neg (by simp)]
    refine ⟨c1, ?_⟩
    have ha := e a List.mem_cons_self
    cases l with
    | nil =>
      have h1 : nx' a = some x := by rw [ha]; simp
      rw [h1]
      exact ⟨rfl, hx⟩
    | cons b t =>
      have hab : a ∉ b :: t := (List.nodup_cons.mp hn).1
      have hlast : (b :: t).getLast? = (a :: b :: t).getLast? := by simp [List.getLast?_cons_cons]
      have hne : (a :: b :: t).getLast? ≠ some a := by
        intro q
        rw [← hlast] at q
        exact hab (List.mem_of_getLast? q)
      rw [if_neg hne] at ha
      rw [ha]
      have r := ih (List.nodup_cons.mp hn).2 (fun q => hm (List.mem_cons_of_mem _ q)) (fun y hy => by rw [e y (List.mem_cons_of_mem _ hy), hlast]) c2
      rw [if_neg (by simp)] at r
      exact r
/-- the frames of one place of the calendar -/
def zpl (Fs : List (Nat × Fr)) (c : Nat) : List Nat := (Fs.filter (fun f => f.2.1 % 256 == c)).map (fun f => f.1)
theorem zpl_app (Fs : List (Nat × Fr)) (x : Nat) (f : Fr) (c : Nat) : zpl (Fs ++ [(x, f)]) c = zpl Fs c ++ (if f.1 % 256 = c then [x] else []) := by
  unfold zpl
  rw [List.filter_append, List.map_append]
  congr 1
  by_cases h : f.1 % 256 = c
  · simp [h]
  · simp [h]
theorem zpl_mem {Fs : List (Nat × Fr)} {c x : Nat} (h : x ∈ zpl Fs c) : x ∈ Fs.map (fun f => f.1) := by
  unfold zpl at h
  obtain ⟨f, hf, rfl⟩ := List.mem_map.mp h
  exact List.mem_map.mpr ⟨f, (List.mem_filter.mp hf).1, rfl⟩
theorem zpl_nodup {Fs : List (Nat × Fr)} {c : Nat} (h : (Fs.map (fun f => f.1)).Nodup) : (zpl Fs c).Nodup := by
  unfold zpl
  exact h.sublist (List.filter_sublist.map _)
theorem zpl_disj {Fs : List (Nat × Fr)} {c c' x : Nat} (h : (Fs.map (fun f => f.1)).Nodup) (h1 : x ∈ zpl Fs c) (h2 : x ∈ zpl Fs c') : c = c' := by
  unfold zpl at h1 h2
  obtain ⟨f, hf, e1⟩ := List.mem_map.mp h1
  obtain ⟨f', hf', e2⟩ := List.mem_map.mp h2
  have m1 := List.mem_filter.mp hf
  have m2 := List.mem_filter.mp hf'
  have : f = f' := by
    have hp : ∀ (L : List (Nat × Fr)), (L.map (fun f => f.1)).Nodup → ∀ a, a ∈ L → ∀ b, b ∈ L → a.1 = b.1 → a = b := by
      intro L
      induction L with
      | nil => intro _ a ha; cases ha
      | cons y L ih =>
        intro hn a ha b hb hab
        rw [List.map_cons, List.nodup_cons] at hn
        rcases List.mem_cons.mp ha with e | ha'
        · rcases List.mem_cons.mp hb with e2 | hb'
          · rw [e, e2]
          · exact absurd (List.mem_map.mpr ⟨b, hb', by rw [← hab, e]⟩) hn.1
        · rcases List.mem_cons.mp hb with e2 | hb'
          · exact absurd (List.mem_map.mpr ⟨a, ha', by rw [hab, e2]⟩) hn.1
          · exact ih hn.2 a ha' b hb' hab
    exact hp Fs h f m1.1 f' m2.1 (e1.trans e2.symm)
  subst this
  have a1 : f.2.1 % 256 = c := by simpa using m1.2
  have a2 : f.2.1 % 256 = c' := by simpa using m2.2
  omega
def zCal (nx : Nat → Option Nat) (fd ld : Nat → Option Nat) (Fs : List (Nat × Fr)) : Prop := ∀ c, c < 256 → zChn nx (fd c) (zpl Fs c) ∧ ld c = (zpl Fs c).getLast?
/-- one more frame in the calendar -/
theorem zCal_app {nx nx' fd fd' ld ld' : Nat → Option Nat} {Fs : List (Nat × Fr)} {x c : Nat} {f : Fr} (hn : (Fs.map (fun f => f.1)).Nodup) (hx : x ∉ Fs.map (fun f => f.1)) (h : zCal nx fd ld Fs) (hc : f.1 % 256 = c) (h1 : nx' x = none) (h2 : ∀ a, a ∈ Fs.map (fun f => f.1) → nx' a = if ld c = some a then some x else nx a) (h3 : ∀ d, d < 256 → fd' d = if d = c then (if ld c = none then some x else fd c) else fd d) (h4 : ∀ d, d < 256 → ld' d = if d = c then some x else ld d) : zCal nx' fd' ld' (Fs ++ [(x, f)]) := by
  intro d hd
  rw [zpl_app]
  obtain ⟨k1, k2⟩ := h d hd
  by_cases e : d = c
  · subst e
    rw [if_pos hc, h3 d hd, if_pos rfl, h4 d hd, if_pos rfl]
    refine ⟨?_, by simp⟩
    have r := zChn_app (nx := nx) (nx' := nx') h1 (zpl_nodup hn (c := d)) (fun q => hx (zpl_mem q)) (fun a ha => by rw [h2 a (zpl_mem ha), k2]) k1
    have e2 : (zpl Fs d = []) ↔ ld d = none := by rw [k2, List.getLast?_eq_none_iff]
    by_cases q : ld d = none
    · rw [if_pos q]
      rw [if_pos (e2.mpr q)] at r
      exact r
    · rw [if_neg q]
      rw [if_neg (fun y => q (e2.mp y))] at r
      exact r
  · rw [if_neg (by rw [hc]; exact fun q => e q.symm), List.append_nil, h3 d hd, if_neg e, h4 d hd, if_neg e]
    refine ⟨zChn_cg (fun a ha => ?_) k1, k2⟩
    rw [h2 a (zpl_mem ha), if_neg]
    intro q
    have hm : a ∈ zpl Fs c := by
      have : c < 256 := by rw [← hc]; exact Nat.mod_lt _ (by decide)
      rw [(h c this).2] at q
      exact List.mem_of_getLast? q
    exact e (zpl_disj hn ha hm)
/-- the first frame of a place is taken out -/
theorem zCal_pop {nx fd fd' ld ld' : Nat → Option Nat} {Fs : List (Nat × Fr)} {x c : Nat} {l : List Nat} (h : zCal nx fd ld Fs) (hc : c < 256) (hl : zpl Fs c = x :: l) (h3 : ∀ d, d < 256 → fd' d = if d = c then nx x else fd d) (h4 : ∀ d, d < 256 → ld' d = if d = c then (if nx x = none then none else ld c) else ld d) : ∃ A f B, Fs = A ++ (x, f) :: B ∧ f.1 % 256 = c ∧ (∀ a, a ∈ A → a.2.1 % 256 ≠ c) ∧ zpl (A ++ B) c = l ∧ zCal nx fd' ld' (A ++ B) := by
  have key : ∀ (L : List (Nat × Fr)), zpl L c = x :: l → ∃ A f B, L = A ++ (x, f) :: B ∧ f.1 % 256 = c ∧ (∀ a, a ∈ A → a.2.1 % 256 ≠ c) := by
    intro L
    induction L with
    | nil => intro q; cases q
    | cons y L ih =>
      intro q
      by_cases hy : y.2.1 % 256 = c
      · refine ⟨[], y.2, L, ?_, hy, fun a ha => by cases ha⟩
        have : y.1 = x := by
          unfold zpl at q
          rw [List.filter_cons, if_pos (by simpa using hy), List.map_cons] at q
          exact (List.cons.inj q).1
        rw [← this]; rfl
      · have q2 : zpl L c = x :: l := by
          unfold zpl at q ⊢
          rw [List.filter_cons, if_neg (by simpa using hy)] at q
          exact q
        obtain ⟨A, f, B, e1, e2, e3⟩ := ih q2
        refine ⟨y :: A, f, B, by rw [e1]; rfl, e2, fun a ha => ?_⟩
        rcases List.mem_cons.mp ha with rfl | ha
        · exact hy
        · exact e3 a ha
  obtain ⟨A, f, B, e1, e2, e3⟩ := key Fs hl
  have ecat : ∀ d, zpl Fs d = zpl A d ++ ((if f.1 % 256 = d then [x] else []) ++ zpl B d) := by
    intro d
    rw [e1]
    unfold zpl
    rw [List.filter_append, List.map_append, List.filter_cons]
    by_cases q : f.1 % 256 = d
    · simp [q]
    · simp [q]
  have eAB : ∀ d, zpl (A ++ B) d = zpl A d ++ zpl B d := by
    intro d
    unfold zpl
    rw [List.filter_append, List.map_append]
  have eA : zpl A c = [] := by
    unfold zpl
    rw [List.map_eq_nil_iff, List.filter_eq_nil_iff]
    intro a ha
    simpa using e3 a ha
  have el : zpl (A ++ B) c = l := by
    have q := ecat c
    rw [hl, eA, if_pos e2] at q
    rw [eAB, eA]
    exact (List.cons.inj q).2.symm
  refine ⟨A, f, B, e1, e2, e3, el, fun d hd => ?_⟩
  by_cases q : d = c
  · subst q
    obtain ⟨k1, k2⟩ := h d hc
    rw [hl] at k1 k2
    rw [h3 d hd, if_pos rfl, h4 d hd, if_pos rfl, el]
    refine ⟨k1.2, ?_⟩
    cases l with
    | nil =>
      have : nx x = none := k1.2
      rw [if_pos this]; rfl
    | cons y t =>
      have : nx x = some y := k1.2.1
      rw [if_neg (by rw [this]; simp), k2, List.getLast?_cons_cons]
  · obtain ⟨k1, k2⟩ := h d hd
    have e5 : zpl (A ++ B) d = zpl Fs d := by
      rw [ecat, eAB, if_neg (by rw [e2]; exact fun y => q y.symm), List.nil_append]
    rw [h3 d hd, if_neg q, h4 d hd, if_neg q, e5]
    exact ⟨k1, k2⟩
