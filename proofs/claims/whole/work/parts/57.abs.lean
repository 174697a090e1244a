/-! absorption: cells that are made become objects of the state -/
theorem zkF_big (k i : Nat) : zkF k (i + 48) = (9, 0) := by
  match k with
  | 0 => rfl
  | 1 => rfl
  | 2 => rfl
  | 3 => rfl
  | 4 => rfl
  | 5 => rfl
  | 6 => rfl
  | 7 => rfl
  | 8 => rfl
  | 9 => rfl
  | 10 => rfl
  | 11 => rfl
  | 12 => rfl
  | 13 => rfl
  | 14 => rfl
  | 15 => rfl
  | 16 => rfl
  | 17 => rfl
  | 18 => rfl
  | 19 => rfl
  | n + 20 => rfl
theorem zkF_20 (n j : Nat) : zkF (n + 20) j = (9, 0) := rfl
theorem zkA_big (n : Nat) : zkA (n + 200) = (9, 0, 0, 0) := rfl
def zarrs (k : Nat) : List Nat := (List.range 48).filterMap (fun j => if (zkF k j).1 = 2 then some (zkF k j).2 else none)
theorem zarrs_of {k j : Nat} (h : (zkF k j).1 = 2) : (zkF k j).2 ∈ zarrs k := by
  rcases Nat.lt_or_ge j 48 with hj | hj
  · exact List.mem_filterMap.mpr ⟨j, List.mem_range.mpr hj, by rw [if_pos h]⟩
  · obtain ⟨i, rfl⟩ : ∃ i, j = i + 48 := ⟨j - 48, by omega⟩
    rw [zkF_big] at h
    exact absurd h (by decide)
theorem zarrs_ex {k a : Nat} (h : a ∈ zarrs k) : ∃ j, (zkF k j).1 = 2 ∧ (zkF k j).2 = a := by
  obtain ⟨j, -, hj⟩ := List.mem_filterMap.mp h
  by_cases c : (zkF k j).1 = 2
  · rw [if_pos c] at hj
    exact ⟨j, c, Option.some.inj hj⟩
  · rw [if_neg c] at hj
    cases hj
theorem zarrs_100 {k a : Nat} (h : a ∈ zarrs k) : 100 ≤ a := by
  obtain ⟨j, h1, h2⟩ := zarrs_ex h
  rcases Nat.lt_or_ge k 20 with hk | hk
  · rcases Nat.lt_or_ge j 48 with hj | hj
    · have := (show ∀ k, k < 20 → ∀ j, j < 48 → (zkF k j).1 = 2 → 100 ≤ (zkF k j).2 from by decide +kernel) k hk j hj h1
      omega
    · obtain ⟨i, rfl⟩ : ∃ i, j = i + 48 := ⟨j - 48, by omega⟩
      rw [zkF_big] at h1
      exact absurd h1 (by decide)
  · obtain ⟨n, rfl⟩ : ∃ n, k = n + 20 := ⟨k - 20, by omega⟩
    rw [zkF_20] at h1
    exact absurd h1 (by decide)
theorem zarrs_nil {k : Nat} (h : 20 ≤ k) : zarrs k = [] := by
  cases hz : zarrs k with
  | nil => rfl
  | cons a t =>
    obtain ⟨j, h1, -⟩ := zarrs_ex (k := k) (a := a) (by rw [hz]; exact List.mem_cons_self)
    obtain ⟨n, rfl⟩ : ∃ n, k = n + 20 := ⟨k - 20, by omega⟩
    rw [zkF_20] at h1
    exact absurd h1 (by decide)
theorem zA5 {k : Nat} (h : (zkA k).1 = 5) : k = 103 ∨ k = 115 ∨ k = 134 := by
  rcases Nat.lt_or_ge k 200 with hk | hk
  · exact (show ∀ k, k < 200 → (zkA k).1 = 5 → k = 103 ∨ k = 115 ∨ k = 134 from by decide +kernel) k hk h
  · obtain ⟨n, rfl⟩ : ∃ n, k = n + 200 := ⟨k - 200, by omega⟩
    rw [zkA_big] at h
    exact absurd h (by decide)
/-- an object and its arrays -/
def zob (k o : Nat) : List (Nat × Nat) := (k, o) :: (zarrs k).flatMap (fun a => (a, o) :: (if (zkA a).1 = 5 then (List.range (zkA a).2.1).map (fun r => ((zkA a).2.2.1, o * (zkA a).2.1 + r)) else []))
def zClN (nm : List (Nat × Nat)) : Prop := ∀ k o, (k, o) ∈ nm → (∀ a, a ∈ zarrs k → (a, o) ∈ nm) ∧ ((zkA k).1 = 5 → ∀ r, r < (zkA k).2.1 → ((zkA k).2.2.1, o * (zkA k).2.1 + r) ∈ nm)
theorem zClN_nil : zClN [] := fun _ _ h => absurd h List.not_mem_nil
theorem zClN_app {x y : List (Nat × Nat)} (hx : zClN x) (hy : zClN y) : zClN (x ++ y) := by
  intro k o h
  rcases List.mem_append.mp h with h | h
  · exact ⟨fun a ha => List.mem_append_left _ ((hx k o h).1 a ha), fun h5 r hr => List.mem_append_left _ ((hx k o h).2 h5 r hr)⟩
  · exact ⟨fun a ha => List.mem_append_right _ ((hy k o h).1 a ha), fun h5 r hr => List.mem_append_right _ ((hy k o h).2 h5 r hr)⟩
theorem zClN_cl {nm : List (Nat × Nat)} (h : zClN nm) : zCl nm := ⟨fun k o _ hm hk => (h k o hm).1 _ (zarrs_of hk), fun k o r hm h5 hr => (h k o hm).2 h5 r hr⟩
theorem zCl_app {x y : List (Nat × Nat)} (hx : zCl x) (hy : zCl y) : zCl (x ++ y) := by
  refine ⟨fun k o j hm hk => ?_, fun k o r hm h5 hr => ?_⟩
  · rcases List.mem_append.mp hm with h | h
    · exact List.mem_append_left _ (hx.1 k o j h hk)
    · exact List.mem_append_right _ (hy.1 k o j h hk)
  · rcases List.mem_append.mp hm with h | h
    · exact List.mem_append_left _ (hx.2 k o r h h5 hr)
    · exact List.mem_append_right _ (hy.2 k o r h h5 hr)
theorem zClN_ob {k o : Nat} (hk : k < 100) : zClN (zob k o) := by
  intro k' o' h
  rcases List.mem_cons.mp h with e | h
  · cases e
    refine ⟨fun a ha => List.mem_cons_of_mem _ (List.mem_flatMap.mpr ⟨a, ha, List.mem_cons_self⟩), fun h5 => ?_⟩
    rcases zA5 h5 with e | e | e <;> omega
  · obtain ⟨a, ha, h⟩ := List.mem_flatMap.mp h
    have h100 := zarrs_100 ha
    rcases List.mem_cons.mp h with e | h
    · cases e
      refine ⟨fun b hb => (by rw [zarrs_nil (by omega)] at hb; cases hb), fun h5 r hr => List.mem_cons_of_mem _ (List.mem_flatMap.mpr ⟨_, ha, List.mem_cons_of_mem _ ?_⟩)⟩
      rw [if_pos h5]
      exact List.mem_map.mpr ⟨r, List.mem_range.mpr hr, rfl⟩
    · by_cases h5 : (zkA a).1 = 5
      · rw [if_pos h5] at h
        obtain ⟨r, -, e⟩ := List.mem_map.mp h
        cases e
        rcases zA5 h5 with rfl | rfl | rfl
        · exact ⟨fun b hb => (by rw [zarrs_nil (by decide)] at hb; cases hb), fun h5' => absurd h5' (by decide)⟩
        · exact ⟨fun b hb => (by rw [zarrs_nil (by decide)] at hb; cases hb), fun h5' => absurd h5' (by decide)⟩
        · exact ⟨fun b hb => (by rw [zarrs_nil (by decide)] at hb; cases hb), fun h5' => absurd h5' (by decide)⟩
      · rw [if_neg h5] at h
        cases h
/-- new objects' contents w over what was there -/
def zmg (nm : List (Nat × Nat)) (w z : St) : St :=
  (fun k j o => if (k, o) ∈ nm then w.1 k j o else z.1 k j o, fun k j o => if (k, o) ∈ nm then w.2.1 k j o else z.2.1 k j o, fun k o i => if (k, o) ∈ nm then w.2.2.1 k o i else z.2.2.1 k o i,
   fun k o i => if (k, o) ∈ nm then w.2.2.2.1 k o i else z.2.2.2.1 k o i, fun k o i => if (k, o) ∈ nm then w.2.2.2.2 k o i else z.2.2.2.2 k o i)
theorem zgI_mg (nm : List (Nat × Nat)) (w z : St) (k j o : Nat) : zgI (zmg nm w z) k j o = if (k, o) ∈ nm then zgI w k j o else zgI z k j o := rfl
theorem zgR_mg (nm : List (Nat × Nat)) (w z : St) (k j o : Nat) : zgR (zmg nm w z) k j o = if (k, o) ∈ nm then zgR w k j o else zgR z k j o := rfl
theorem zgA_mg (nm : List (Nat × Nat)) (w z : St) (k o i : Nat) : zgA (zmg nm w z) k o i = if (k, o) ∈ nm then zgA w k o i else zgA z k o i := rfl
theorem zgL_mg (nm : List (Nat × Nat)) (w z : St) (k o i : Nat) : zgL (zmg nm w z) k o i = if (k, o) ∈ nm then zgL w k o i else zgL z k o i := rfl
theorem zgQ_mg (nm : List (Nat × Nat)) (w z : St) (k o i : Nat) : zgQ (zmg nm w z) k o i = if (k, o) ∈ nm then zgQ w k o i else zgQ z k o i := rfl
/-! cells that the machine can't tell apart -/
def zeq (x y : Nat × va_E) : Prop := x.1 = y.1 ∧ ∀ (D : va_G) (cl : List vw_C) (H : Heap), va_at D cl x H → va_at D cl y H
theorem zeq_rf (x : Nat × va_E) : zeq x x := ⟨rfl, fun _ _ _ h => h⟩
theorem zeq_of {x y : Nat × va_E} (h : x = y) : zeq x y := h ▸ zeq_rf x
def zal2 : va_W → va_W → Prop
  | [], [] => True
  | a :: l, b :: m => zeq a b ∧ zal2 l m
  | [], _ :: _ => False
  | _ :: _, [] => False
theorem zal2_nil : zal2 [] [] := trivial
theorem zal2_cons {a b : Nat × va_E} {l m : va_W} (h : zeq a b) (t : zal2 l m) : zal2 (a :: l) (b :: m) := ⟨h, t⟩
theorem zal2_app {a b c d : va_W} (h : zal2 a b) (t : zal2 c d) : zal2 (a ++ c) (b ++ d) := by
  induction a generalizing b with
  | nil => cases b with
    | nil => exact t
    | cons y b => exact h.elim
  | cons x a ih => cases b with
    | nil => exact h.elim
    | cons y b => exact ⟨h.1, ih h.2⟩
theorem zal2_map {α : Type} {l : List α} {f g : α → Nat × va_E} (h : ∀ q ∈ l, zeq (f q) (g q)) : zal2 (l.map f) (l.map g) := by
  induction l with
  | nil => exact trivial
  | cons a l ih => exact ⟨h a List.mem_cons_self, ih (fun q hq => h q (List.mem_cons_of_mem _ hq))⟩
theorem zal2_get {l m : va_W} (h : zal2 l m) : ∀ (i : Nat) (y : Nat × va_E), m[i]? = some y → ∃ x, l[i]? = some x ∧ zeq x y := by
  induction l generalizing m with
  | nil => cases m with
    | nil => intro i y hy; cases hy
    | cons b m => exact h.elim
  | cons a l ih => cases m with
    | nil => exact h.elim
    | cons b m =>
      intro i y hy
      cases i with
      | zero => exact ⟨a, rfl, (Option.some.inj hy) ▸ h.1⟩
      | succ n => exact ih h.2 n y hy
theorem zP_al {D : va_G} {cl : List vw_C} {ws ws' : va_W} {H : Heap} (hP : va_P D cl ws H) (h : zal2 ws ws') : va_P D cl ws' H := fun k q hk => by
  obtain ⟨x, hx, he⟩ := zal2_get h k q hk
  exact he.2 D cl H (hP k x hx)
theorem zD_al {A : Nat → Prop} {ws ws' : va_W} (hD : va_D A ws) (h : zal2 ws ws') : va_D A ws' := by
  refine ⟨fun i j p q hi hj e => ?_, fun k q hk => ?_⟩
  · obtain ⟨x, hx, ex⟩ := zal2_get h i p hi
    obtain ⟨y, hy, ey⟩ := zal2_get h j q hj
    exact hD.1 i j x y hx hy (by rw [ex.1, ey.1, e])
  · obtain ⟨x, hx, ex⟩ := zal2_get h k q hk
    exact ex.1 ▸ hD.2 k x hx
theorem zD_any {cy : Nat → ClassId} {B : Nat → Nat → Nat} {ids : List (Nat × Nat)} {A : Nat → Prop} {z : St} (hD : va_D A (zw cy B ids z)) (z2 : St) : va_D A (zw cy B ids z2) := by
  have key : ∀ (k : Nat) (q : Nat × va_E), (zw cy B ids z2)[k]? = some q → ∃ x, (zw cy B ids z)[k]? = some x ∧ x.1 = q.1 := by
    intro k q hk
    simp only [zw, List.getElem?_map] at hk ⊢
    cases hx : ids[k]? with
    | none => rw [hx] at hk; cases hk
    | some a =>
      rw [hx] at hk
      simp only [Option.map_some, Option.some.injEq] at hk
      exact ⟨_, rfl, by rw [← hk]⟩
  refine ⟨fun i j p q hi hj e => ?_, fun k q hk => ?_⟩
  · obtain ⟨x, hx, ex⟩ := key i p hi
    obtain ⟨y, hy, ey⟩ := key j q hj
    exact hD.1 i j x y hx hy (by rw [ex, ey, e])
  · obtain ⟨x, hx, ex⟩ := key k q hk
    exact ex ▸ hD.2 k x hx
theorem zSt_of {cy : Nat → ClassId} {B : Nat → Nat → Nat} {ids : List (Nat × Nat)} {A : Nat → Prop} {z : St} (hnd : ids.Nodup) (hcl : zCl ids) (hD : va_D A (zw cy B ids z)) : zSt B ids := by
  refine ⟨hnd, hcl, fun k o k' o' h h' e => ?_⟩
  obtain ⟨i, hi, hi2⟩ := zw_at (cy := cy) (B := B) z h
  obtain ⟨j, hj, hj2⟩ := zw_at (cy := cy) (B := B) z h'
  have hij := hD.1 i j _ _ hi2 hj2 e
  subst hij
  rw [hi] at hj
  exact Option.some.inj hj
theorem zarr_congr {cA : ClassId} {n : Nat} {f g : Nat → Value} (h : ∀ i, i < n → f i = g i) : arrV cA n f = arrV cA n g := by
  unfold arrV
  have e : (fun j : Fin n => f j.val) = (fun j : Fin n => g j.val) := funext fun j => h j.val j.isLt
  rw [e]
def zKeep (ids : List (Nat × Nat)) (z z' : St) : Prop := ∀ k o, (k, o) ∈ ids → (∀ j, zgI z' k j o = zgI z k j o) ∧ (∀ j, zgR z' k j o = zgR z k j o) ∧ (∀ i, zgA z' k o i = zgA z k o i) ∧ (∀ i, zgL z' k o i = zgL z k o i) ∧ (∀ i, zgQ z' k o i = zgQ z k o i)
def zI9 (ids : List (Nat × Nat)) : Prop := ∀ o, (119, o) ∈ ids → (1, o) ∈ ids
theorem zI9_app {x y : List (Nat × Nat)} (hx : zI9 x) (hy : zI9 y) : zI9 (x ++ y) := fun o h => by
  rcases List.mem_append.mp h with h | h
  · exact List.mem_append_left _ (hx o h)
  · exact List.mem_append_right _ (hy o h)
theorem zkF_lt {k j : Nat} (h : j < zN k) : (zkF k j).1 = 0 ∨ (zkF k j).1 = 1 ∨ (zkF k j).1 = 2 := by
  rcases Nat.lt_or_ge k 20 with hk | hk
  · have h48 := (show ∀ k, k < 20 → zN k < 48 from by decide +kernel) k hk
    exact (show ∀ k, k < 20 → ∀ j, j < 48 → j < zN k → (zkF k j).1 = 0 ∨ (zkF k j).1 = 1 ∨ (zkF k j).1 = 2 from by decide +kernel) k hk j (by omega) h
  · exfalso
    unfold zN at h
    have hn : vwCl[k]? = none := List.getElem?_eq_none (Nat.le_trans (Nat.le_of_ble_eq_true rfl) hk)
    rw [hn] at h
    exact absurd h (Nat.not_lt_zero _)
theorem zA_5 {k : Nat} : (zkA k).1 = 5 → 100 ≤ k := fun h => by
  rcases zA5 h with e | e | e <;> omega
theorem zcel_keep {cy : Nat → ClassId} {B B' : Nat → Nat → Nat} {ids : List (Nat × Nat)} {z z' : St} {k o : Nat} (hm : (k, o) ∈ ids) (hcl : zCl ids) (hW : zWf ids z) (h9 : zI9 ids) (hB : ∀ k o, (k, o) ∈ ids → B' k o = B k o) (hz : zKeep ids z z') : zeq (B k o, zcel cy B z (k, o)) (B' k o, zcel cy B' z' (k, o)) := by
  by_cases hk : k < 100
  · rw [zcel_o hk, zcel_o hk, hB k o hm]
    have e : zfs B z k o = zfs B' z' k o := by
      unfold zfs
      apply List.map_congr_left
      intro j hj
      rcases zkF_lt (List.mem_range.mp hj) with h | h | h
      · rw [zfv_I (x := (zkF k j).2) (Prod.ext h rfl), zfv_I (x := (zkF k j).2) (Prod.ext h rfl), (hz k o hm).1 j]
      · rw [zfv_R (t := (zkF k j).2) (Prod.ext h rfl), zfv_R (t := (zkF k j).2) (Prod.ext h rfl), (hz k o hm).2.1 j]
        cases hx : zgR z k j o with
        | none => rfl
        | some t => rw [Option.map_some, Option.map_some, hB _ _ (hW.1 k j o t hm h hx)]
      · rw [zfv_A (a := (zkF k j).2) (Prod.ext h rfl), zfv_A (a := (zkF k j).2) (Prod.ext h rfl), hB _ _ (hcl.1 k o j hm h)]
    rw [e]
    exact zeq_rf _
  · have hk' : 100 ≤ k := Nat.not_lt.mp hk
    rw [zcel_a hk', zcel_a hk', hB k o hm]
    have el : zlen z' k o = zlen z k o := by
      unfold zlen
      by_cases c : k = 119
      · rw [if_pos c, if_pos c, (hz 1 o (h9 o (c ▸ hm))).1 1]
      · rw [if_neg c, if_neg c]
    rw [el]
    refine ⟨rfl, fun D cl H h => ?_⟩
    have h1 : H[B k o]? = some (vp_cell (cy (zkA k).2.2.2) (zlen z k o, zco B z k o)) := h
    show H[B k o]? = some (vp_cell (cy (zkA k).2.2.2) (zlen z k o, zco B' z' k o))
    rw [h1]
    congr 1
    obtain ⟨z1, z2, z3, z4, z5⟩ := hz k o hm
    by_cases c2 : (zkA k).1 = 2
    · rw [zco_l c2, zco_l c2, show zgL z' k o = zgL z k o from funext z4]
    · by_cases c4 : (zkA k).1 = 4
      · rw [zco_q c4, zco_q c4]
        have e : (fun i => (zgQ z k o i).map (B (zkA k).2.2.1)) = (fun i => (zgQ z' k o i).map (B' (zkA k).2.2.1)) := funext fun i => by
          rw [z5 i]
          cases hx : zgQ z k o i with
          | none => rfl
          | some t => rw [Option.map_some, Option.map_some, hB _ _ (hW.2.1 k o i t hm c4 hx)]
        rw [e]
      · by_cases c5 : (zkA k).1 = 5
        · rw [zco_r c5, zco_r c5, vp_cell_q, vp_cell_q]
          refine zarr_congr (fun i hi => ?_)
          have hl : zlen z k o = (zkA k).2.1 := zlen_d (fun q => by rw [q] at c5; exact absurd c5 (by decide))
          rw [hl] at hi
          rw [hB _ _ (hcl.2 k o i hm c5 hi)]
        · have ez : ∀ (b : Nat → Nat → Nat) (y : St), zco b y k o = .inl (zgA y k o) := fun b y => by
            unfold zco
            split
            · rename_i q; exact absurd q c2
            · rename_i q; exact absurd q c4
            · rename_i q; exact absurd q c5
            · rfl
          rw [ez, ez, show zgA z' k o = zgA z k o from funext z3]
theorem zBx (B : Nat → Nat → Nat) (ids : List (Nat × Nat)) : ∀ (nm : List (Nat × Nat)) (as : List Nat), nm.length = as.length → nm.Nodup → (∀ q ∈ nm, q ∉ ids) → ∃ B' : Nat → Nat → Nat, (∀ k o, (k, o) ∈ ids → B' k o = B k o) ∧ nm.map (fun q => B' q.1 q.2) = as := by
  intro nm
  induction nm with
  | nil => intro as hl _ _; cases as with
    | nil => exact ⟨B, fun _ _ _ => rfl, rfl⟩
    | cons a t => cases hl
  | cons q nm ih =>
    intro as hl hn hf
    cases as with
    | nil => cases hl
    | cons a as =>
      obtain ⟨B1, h1, h2⟩ := ih as (Nat.succ.inj hl) (List.nodup_cons.mp hn).2 (fun x hx => hf x (List.mem_cons_of_mem _ hx))
      refine ⟨fun k o => if (k, o) = q then a else B1 k o, fun k o hm => ?_, ?_⟩
      · show (if (k, o) = q then a else B1 k o) = B k o
        rw [if_neg (fun e : (k, o) = q => hf q List.mem_cons_self (e ▸ hm))]
        exact h1 k o hm
      · rw [List.map_cons]
        congr 1
        · exact if_pos rfl
        · rw [← h2]
          apply List.map_congr_left
          intro x hx
          have hne : x ≠ q := fun e => (List.nodup_cons.mp hn).1 (e ▸ hx)
          exact if_neg (fun e : (x.1, x.2) = q => hne e)
theorem zabs {D : va_G} {cy : Nat → ClassId} {B B' : Nat → Nat → Nat} {ids nm : List (Nat × Nat)} {A : Nat → Prop} {H0 : Heap} {z w : St} {cs : va_W} {H : Heap} {locs : List Loc} (hst : zSt B ids) (h9 : zI9 ids) (hr : zRC D cy B ids A H0 z cs H locs) (hB : ∀ k o, (k, o) ∈ ids → B' k o = B k o) (hnd : nm.Nodup) (hf : ∀ q ∈ nm, q ∉ ids) (hcl : zClN nm)
    (hw : zWf (ids ++ nm) w) (hcs : zal2 cs (nm.map (fun q => (B' q.1 q.2, zcel cy B' (zmg nm w z) q)))) : zSt B' (ids ++ nm) ∧ (∀ z2, va_D A (zw cy B' (ids ++ nm) z2)) ∧ zRep D cy B' (ids ++ nm) A H0 (zmg nm w z) H locs := by
  obtain ⟨hP, hD, hS, hW⟩ := hr
  have hkeep : zKeep ids z (zmg nm w z) := fun k o hm => by
    have hn : (k, o) ∉ nm := fun q => hf _ q hm
    exact ⟨fun j => by rw [zgI_mg, if_neg hn], fun j => by rw [zgR_mg, if_neg hn], fun j => by rw [zgA_mg, if_neg hn], fun j => by rw [zgL_mg, if_neg hn], fun j => by rw [zgQ_mg, if_neg hn]⟩
  have hal : zal2 (zw cy B ids z ++ cs) (zw cy B' (ids ++ nm) (zmg nm w z)) := by
    unfold zw
    rw [List.map_append]
    exact zal2_app (zal2_map (fun q hq => zcel_keep hq hst.2.1 hW h9 hB hkeep)) hcs
  have hD' := zD_al hD hal
  have hnd' : (ids ++ nm).Nodup := List.nodup_append.mpr ⟨hst.1, hnd, fun a ha b hb e => hf b hb (e ▸ ha)⟩
  refine ⟨zSt_of hnd' (zCl_app hst.2.1 (zClN_cl hcl)) hD', fun z2 => zD_any hD' z2, zP_al hP hal, hS, ?_⟩
  refine ⟨fun k j o t hm hk ht => ?_, fun k o i t hm hk ht => ?_, fun k o i hk => ?_⟩
  · rw [zgR_mg] at ht
    by_cases c : (k, o) ∈ nm
    · rw [if_pos c] at ht
      exact hw.1 k j o t hm hk ht
    · rw [if_neg c] at ht
      exact List.mem_append_left _ (hW.1 k j o t ((List.mem_append.mp hm).elim id (fun q => absurd q c)) hk ht)
  · rw [zgQ_mg] at ht
    by_cases c : (k, o) ∈ nm
    · rw [if_pos c] at ht
      exact hw.2.1 k o i t hm hk ht
    · rw [if_neg c] at ht
      exact List.mem_append_left _ (hW.2.1 k o i t ((List.mem_append.mp hm).elim id (fun q => absurd q c)) hk ht)
  · rw [zgA_mg]
    by_cases c : (k, o) ∈ nm
    · rw [if_pos c]
      exact hw.2.2 k o i hk
    · rw [if_neg c]
      exact hW.2.2 k o i hk
theorem zWf_z (ids : List (Nat × Nat)) : zWf ids zz0 := ⟨fun _ _ _ _ _ _ h => (by cases h), fun _ _ _ _ _ _ h => (by cases h), fun _ _ _ _ => rfl⟩
/-! the cells of new objects -/
section ZNEW
variable {cy : Nat → ClassId} {B : Nat → Nat → Nat} {nm : List (Nat × Nat)} {w z : St} {k j o a q i t : Nat}
theorem zfvI {v : Int32} (hm : (k, o) ∈ nm) (hk : zkF k j = (0, 0)) (hw : zgI w k j o = v) : Value.int v = zfv B (zmg nm w z) k j o := by
  rw [zfv_I hk, zgI_mg, if_pos hm, hw]
theorem zfvA (hk : zkF k j = (2, a)) (he : B a o = q) : Value.ref q = zfv B z k j o := by
  rw [zfv_A hk, he]
theorem zfvN (hm : (k, o) ∈ nm) (hk : zkF k j = (1, t)) (hw : zgR w k j o = none) : Value.null = zfv B (zmg nm w z) k j o := by
  rw [zfv_R hk, zgR_mg, if_pos hm, hw]
  rfl
theorem zfvR (hm : (k, o) ∈ nm) (hk : zkF k j = (1, t)) (hw : zgR w k j o = some i) (he : B t i = q) : Value.ref q = zfv B (zmg nm w z) k j o := by
  rw [zfv_R hk, zgR_mg, if_pos hm, hw, Option.map_some, he]
  rfl
theorem zcons {α : Type} {a b : α} {l m : List α} (h : a = b) (t : l = m) : a :: l = b :: m := by rw [h, t]
theorem zceO {fs : List Value} (hk : k < 100) (ha : B k o = a) (hf : fs = zfs B z k o) : zeq (a, .inr (k, fs)) (B k o, zcel cy B z (k, o)) := by
  subst ha
  subst hf
  rw [zcel_o hk]
  exact zeq_rf _
theorem zceI {c L tg ti : Nat} {f : Nat → Int32} (hk : 100 ≤ k) (h9 : k ≠ 119) (hA : zkA k = (c, L, tg, ti)) (hc : c = 0 ∨ c = 1 ∨ c = 3) (ha : B k o = a) (hm : (k, o) ∈ nm) (hw : ∀ i, zgA w k o i = f i) : zeq (a, .inl (cy ti, (L, .inl f))) (B k o, zcel cy B (zmg nm w z) (k, o)) := by
  subst ha
  rw [zcel_a hk, zlen_d h9, zco_i (by rw [hA]; exact hc), hA]
  have e : zgA (zmg nm w z) k o = f := funext fun i => by rw [zgA_mg, if_pos hm, hw]
  rw [e]
  exact zeq_rf _
theorem zceL {L tg ti : Nat} (hk : 100 ≤ k) (h9 : k ≠ 119) (hA : zkA k = (2, L, tg, ti)) (ha : B k o = a) (hm : (k, o) ∈ nm) (hw : ∀ i, zgL w k o i = 0) : zeq (a, .inl (cy ti, (L, .inr (.inl (fun _ => 0))))) (B k o, zcel cy B (zmg nm w z) (k, o)) := by
  subst ha
  rw [zcel_a hk, zlen_d h9, zco_l (by rw [hA]), hA]
  have e : zgL (zmg nm w z) k o = fun _ => 0 := funext fun i => by rw [zgL_mg, if_pos hm, hw]
  rw [e]
  exact zeq_rf _
theorem zceQ {L L' tg ti : Nat} {f : Nat → Option Nat} (hk : 100 ≤ k) (hA : zkA k = (4, L, tg, ti)) (hL : zlen (zmg nm w z) k o = L') (ha : B k o = a) (hm : (k, o) ∈ nm) (hw : ∀ i, (zgQ w k o i).map (B tg) = f i) : zeq (a, .inl (cy ti, (L', .inr (.inr (.inr (.inr f)))))) (B k o, zcel cy B (zmg nm w z) (k, o)) := by
  subst ha
  subst hL
  rw [zcel_a hk, zco_q (by rw [hA]), hA]
  have e : (fun i => (zgQ (zmg nm w z) k o i).map (B tg)) = f := funext fun i => by rw [zgQ_mg, if_pos hm, hw]
  show zeq _ (B k o, Sum.inl (cy ti, (zlen (zmg nm w z) k o, Sum.inr (Sum.inr (Sum.inr (Sum.inr (fun i => (zgQ (zmg nm w z) k o i).map (B tg))))))))
  rw [e]
  exact zeq_rf _
theorem zceR {L tg ti : Nat} {f : Nat → Option Nat} (hk : 100 ≤ k) (h9 : k ≠ 119) (hA : zkA k = (5, L, tg, ti)) (ha : B k o = a) (hw : ∀ i, i < L → some (B tg (o * L + i)) = f i) : zeq (a, .inl (cy ti, (L, .inr (.inr (.inr (.inr f)))))) (B k o, zcel cy B z (k, o)) := by
  subst ha
  rw [zcel_a hk, zlen_d h9, zco_r (by rw [hA]), hA]
  refine ⟨rfl, fun D cl H h => ?_⟩
  have h1 : H[B k o]? = some (vp_cell (cy ti) (L, .inr (.inr (.inr (.inr f))))) := h
  show H[B k o]? = some (vp_cell (cy ti) (L, .inr (.inr (.inr (.inr (fun i => some (B tg (o * L + i))))))))
  rw [h1, vp_cell_q, vp_cell_q]
  congr 1
  exact zarr_congr (fun i hi => by rw [hw i hi])
theorem zqup {x : Nat} {f : Nat → Option Nat} (hf : ∀ i, (zgQ w k o i).map (B t) = f i) {n q : Nat} (he : B t n = q) : ∀ i, (zgQ (zsQ w k o x (some n)) k o i).map (B t) = va_up f x (some q) i := fun i => by
  rw [zgQ_sQ]
  unfold va_up
  by_cases c : i = x
  · rw [if_pos ⟨rfl, rfl, c⟩, if_pos c, Option.map_some, he]
  · rw [if_neg (fun y => c y.2.2), if_neg c]
    exact hf i
end ZNEW
/-- may be made: names that are not there yet -/
def zfr (nm ids : List (Nat × Nat)) : Prop := nm.Nodup ∧ ∀ q ∈ nm, q ∉ ids
noncomputable def zqc {β : Type} (c : Prop) (k : Option β) : Option β := @ite _ c (Classical.propDecidable c) k none
theorem zqc_some {β : Type} {c : Prop} {k : Option β} {y : β} (h : zqc c k = some y) : c ∧ k = some y := by
  unfold zqc at h
  by_cases q : c
  · rw [if_pos q] at h; exact ⟨q, h⟩
  · rw [if_neg q] at h; cases h
theorem zqc_of {β : Type} {c : Prop} {k : Option β} (h : c) : zqc c k = k := by
  unfold zqc
  exact if_pos h
