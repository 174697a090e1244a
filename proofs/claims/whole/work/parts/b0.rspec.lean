/-! routers: what a router knows, the same for class and model -/
/-- a neighbour: its key (16 * port + router), when it was heard last, whether it is a friend, when each router's advert is due there (0: not) -/
abbrev Nb : Type := Nat × Nat × Bool × (Nat → Nat)
/-- an entry: the friend and one (0: a port), the net, the toll -/
abbrev En : Type := Nat × Nat × Nat
/-- an advert in the base: its number, when it came, what it tells -/
abbrev Ad : Type := Nat × Nat × List En
def hAt (H : List Nb) (key : Nat) : Option Nb := H.find? (fun n => n.1 == key)
def fl (H : List Nb) (key : Nat) : Nat := match hAt H key with | some n => n.2.1 | none => 0
def fn (H : List Nb) (key : Nat) : Bool := match hAt H key with | some n => n.2.2.1 | none => false
def fd (H : List Nb) (key k : Nat) : Nat := match hAt H key with | some n => n.2.2.2 k | none => 0
def hUpd (H : List Nb) (key : Nat) (f : Nb → Nb) : List Nb := H.map (fun n => if n.1 = key then f n else n)
def hDue (H : List Nb) (key r t : Nat) : List Nb := hUpd H key (fun n => (n.1, n.2.1, n.2.2.1, zupd n.2.2.2 r t))
def hCnt (H : List Nb) : Nat := (H.map (fun n => zcnt (fun k => decide (n.2.2.2 k ≠ 0)) 16)).sum
/-- what is so of the row of neighbours -/
def zHk (H : List Nb) : Prop := (∀ n, n ∈ H → n.1 < 96 ∧ n.2.1 ≤ 400000 ∧ ∀ k, n.2.2.2 k ≤ 400100) ∧ H.Pairwise (fun a b => a.1 < b.1) ∧ H.length ≤ 16
/-- nothing is due at who is no friend -/
def zHf (H : List Nb) : Prop := ∀ n, n ∈ H → n.2.2.1 = false → ∀ k, k < 16 → n.2.2.2 k = 0
def zHn (H : List Nb) : Prop := zHk H ∧ zHf H
theorem hAt_cons (n : Nb) (H : List Nb) (key : Nat) : hAt (n :: H) key = if n.1 = key then some n else hAt H key := by
  unfold hAt
  rw [List.find?_cons]
  by_cases c : n.1 = key
  · rw [if_pos c]; simp [c]
  · rw [if_neg c]
    have : (n.1 == key) = false := by simpa using c
    rw [this]
theorem hAt_some {H : List Nb} {key : Nat} {n : Nb} (h : hAt H key = some n) : n ∈ H ∧ n.1 = key := by
  unfold hAt at h
  exact ⟨List.mem_of_find?_eq_some h, by simpa using List.find?_some h⟩
theorem hAt_none {H : List Nb} {key : Nat} : hAt H key = none ↔ ∀ n, n ∈ H → n.1 ≠ key := by
  unfold hAt
  rw [List.find?_eq_none]
  constructor
  · intro h n hn y; exact h n hn (by simpa using y)
  · intro h n hn y; exact h n hn (by simpa using y)
theorem hAt_mem : ∀ {H : List Nb}, H.Pairwise (fun a b => a.1 < b.1) → ∀ {n : Nb}, n ∈ H → hAt H n.1 = some n := by
  intro H
  induction H with
  | nil => intro _ n h; cases h
  | cons m H ih =>
    intro hp n h
    rw [hAt_cons]
    obtain ⟨h1, h2⟩ := List.pairwise_cons.mp hp
    rcases List.mem_cons.mp h with e | h'
    · rw [e, if_pos rfl]
    · rw [if_neg (by have := h1 n h'; omega)]
      exact ih h2 h'
theorem hAt_upd {key : Nat} {f : Nb → Nb} (hf : ∀ n, (f n).1 = n.1) (key' : Nat) : ∀ H : List Nb, hAt (hUpd H key f) key' = if key' = key then (hAt H key).map f else hAt H key' := by
  intro H
  induction H with
  | nil => unfold hUpd hAt; simp
  | cons m H ih =>
    unfold hUpd at ih ⊢
    rw [List.map_cons, hAt_cons, hAt_cons, hAt_cons, ih]
    by_cases c : m.1 = key
    · rw [if_pos c, hf, if_pos c]
      by_cases d : key' = key
      · rw [if_pos d, if_pos (by rw [c, d]), if_pos d]; rfl
      · rw [if_neg d, if_neg (by rw [c]; exact fun y => d y.symm), if_neg d, if_neg (by rw [c]; exact fun y => d y.symm)]
    · rw [if_neg c, if_neg c]
      by_cases d : key' = key
      · rw [if_pos d, if_neg (by rw [d]; exact c), if_pos d]
      · rw [if_neg d, if_neg d]
theorem hUpd_len (H : List Nb) (key : Nat) (f : Nb → Nb) : (hUpd H key f).length = H.length := List.length_map _
theorem hUpd_at {H : List Nb} {key : Nat} {f : Nb → Nb} (hf : ∀ n, (f n).1 = n.1) {i : Nat} {n : Nb} (h : (hUpd H key f)[i]? = some n) : ∃ m, H[i]? = some m ∧ n.1 = m.1 := by
  unfold hUpd at h
  rw [List.getElem?_map] at h
  cases e : H[i]? with
  | none => rw [e] at h; cases h
  | some m =>
    rw [e] at h
    refine ⟨m, rfl, ?_⟩
    have h : (if m.1 = key then f m else m) = n := Option.some.inj h
    rw [← h]
    split
    · exact hf m
    · rfl
theorem hUpd_no {H : List Nb} {key : Nat} {f : Nb → Nb} (h : ∀ n, n ∈ H → n.1 ≠ key) : hUpd H key f = H := by
  unfold hUpd
  conv => rhs; rw [← List.map_id H]
  exact List.map_congr_left (fun n hn => if_neg (h n hn))
theorem zHk_upd {H : List Nb} {key : Nat} {f : Nb → Nb} (hf : ∀ n, (f n).1 = n.1) (hb : ∀ n, n ∈ H → n.1 = key → (f n).2.1 ≤ 400000 ∧ ∀ k, (f n).2.2.2 k ≤ 400100) (h : zHk H) : zHk (hUpd H key f) := by
  obtain ⟨h1, h2, h3⟩ := h
  refine ⟨fun n hn => ?_, ?_, by rw [hUpd_len]; exact h3⟩
  · obtain ⟨m, hm, e⟩ := List.mem_map.mp hn
    by_cases c : m.1 = key
    · rw [if_pos c] at e
      rw [← e, hf]
      exact ⟨(h1 m hm).1, hb m hm c⟩
    · rw [if_neg c] at e
      rw [← e]; exact h1 m hm
  · unfold hUpd
    rw [List.pairwise_map]
    refine h2.imp (fun {a b} hab => ?_)
    have e : ∀ m : Nb, (if m.1 = key then f m else m).1 = m.1 := fun m => by
      split
      · exact hf m
      · rfl
    rw [e, e]; exact hab
theorem zHf_upd {H : List Nb} {key : Nat} {f : Nb → Nb} (hb : ∀ n, n ∈ H → n.1 = key → (f n).2.2.1 = false → ∀ k, k < 16 → (f n).2.2.2 k = 0) (h : zHf H) : zHf (hUpd H key f) := fun n hn hf => by
  obtain ⟨m, hm, e⟩ := List.mem_map.mp hn
  by_cases c : m.1 = key
  · rw [if_pos c] at e
    rw [← e] at hf ⊢; exact hb m hm c hf
  · rw [if_neg c] at e
    rw [← e] at hf ⊢; exact h m hm hf
theorem zcnt_zupd {d : Nat → Nat} {r t : Nat} : ∀ {n : Nat}, r < n → zcnt (fun k => decide (zupd d r t k ≠ 0)) n + (if d r = 0 then 0 else 1) = zcnt (fun k => decide (d k ≠ 0)) n + (if t = 0 then 0 else 1) := by
  intro n
  induction n with
  | zero => intro h; omega
  | succ n ih =>
    intro h
    unfold zcnt
    by_cases c : r = n
    · subst c
      have e : zcnt (fun k => decide (zupd d r t k ≠ 0)) r = zcnt (fun k => decide (d k ≠ 0)) r := zcnt_cg (fun j hj => by rw [zupd_n (by omega)])
      rw [e, zupd_s]
      by_cases c1 : t = 0 <;> by_cases c2 : d r = 0 <;> simp [c1, c2] <;> omega
    · have := ih (by omega)
      rw [zupd_n (fun y => c y.symm)]
      omega
theorem hCnt_cons (n : Nb) (H : List Nb) : hCnt (n :: H) = zcnt (fun k => decide (n.2.2.2 k ≠ 0)) 16 + hCnt H := by
  unfold hCnt
  rw [List.map_cons, List.sum_cons]
theorem hCnt_due {key r t : Nat} (hr : r < 16) : ∀ {H : List Nb}, H.Pairwise (fun a b => a.1 < b.1) → (∃ n, n ∈ H ∧ n.1 = key) → hCnt (hDue H key r t) + (if fd H key r = 0 then 0 else 1) = hCnt H + (if t = 0 then 0 else 1) := by
  intro H
  induction H with
  | nil => rintro _ ⟨n, hn, -⟩; cases hn
  | cons m H ih =>
    rintro hp ⟨n, hn, hk⟩
    obtain ⟨h1, h2⟩ := List.pairwise_cons.mp hp
    have e0 : hDue (m :: H) key r t = (if m.1 = key then (m.1, m.2.1, m.2.2.1, zupd m.2.2.2 r t) else m) :: hDue H key r t := rfl
    rw [e0, hCnt_cons, hCnt_cons]
    by_cases c : m.1 = key
    · have hno : ∀ n, n ∈ H → n.1 ≠ key := fun n hn y => by have := h1 n hn; omega
      have e1 : hDue H key r t = H := hUpd_no hno
      rw [e1, if_pos c]
      have e2 : fd (m :: H) key r = m.2.2.2 r := by
        unfold fd
        rw [hAt_cons, if_pos c]
      rw [e2]
      have := zcnt_zupd (d := m.2.2.2) (r := r) (t := t) hr
      show zcnt (fun k => decide (zupd m.2.2.2 r t k ≠ 0)) 16 + hCnt H + _ = _
      omega
    · rw [if_neg c]
      have e2 : fd (m :: H) key r = fd H key r := by
        unfold fd
        rw [hAt_cons, if_neg c]
      rw [e2]
      have := ih h2 (by
        rcases List.mem_cons.mp hn with e | h'
        · exact absurd (by rw [← e]; exact hk) c
        · exact ⟨n, h', hk⟩)
      omega
theorem hCnt_le (H : List Nb) : hCnt H ≤ 16 * H.length := by
  induction H with
  | nil => exact Nat.le_refl _
  | cons m H ih =>
    rw [hCnt_cons, List.length_cons]
    have := zcnt_le (fun k => decide (m.2.2.2 k ≠ 0)) 16
    omega
theorem hCnt_0 {H : List Nb} (h : hCnt H = 0) : ∀ n, n ∈ H → ∀ k, k < 16 → n.2.2.2 k = 0 := by
  induction H with
  | nil => intro n hn; cases hn
  | cons m H ih =>
    rw [hCnt_cons] at h
    intro n hn k hk
    rcases List.mem_cons.mp hn with e | h'
    · rw [e]
      have hz : zcnt (fun k => decide (m.2.2.2 k ≠ 0)) 16 = 0 := by omega
      have : ∀ N, zcnt (fun k => decide (m.2.2.2 k ≠ 0)) N = 0 → ∀ k, k < N → m.2.2.2 k = 0 := by
        intro N
        induction N with
        | zero => intro _ k hk; omega
        | succ N ihN =>
          intro h0 k hk
          unfold zcnt at h0
          by_cases c : m.2.2.2 N = 0
          · by_cases e : k = N
            · rw [e]; exact c
            · exact ihN (by omega) k (by omega)
          · rw [if_pos (by simpa using c)] at h0; omega
      exact this 16 hz k hk
    · exact ih (by omega) n h' k hk
/-- a new neighbour at its place -/
def hIns (n : Nb) : List Nb → List Nb
  | [] => [n]
  | m :: H => if m.1 < n.1 then m :: hIns n H else n :: m :: H
theorem hIns_mem {n m : Nb} : ∀ {H : List Nb}, m ∈ hIns n H ↔ m = n ∨ m ∈ H := by
  intro H
  induction H with
  | nil => simp [hIns]
  | cons a H ih =>
    unfold hIns
    split
    · rw [List.mem_cons, ih, List.mem_cons]
      constructor
      · rintro (h | h | h)
        · exact Or.inr (Or.inl h)
        · exact Or.inl h
        · exact Or.inr (Or.inr h)
      · rintro (h | h | h)
        · exact Or.inr (Or.inl h)
        · exact Or.inl h
        · exact Or.inr (Or.inr h)
    · rw [List.mem_cons]
theorem hIns_len (n : Nb) : ∀ H : List Nb, (hIns n H).length = H.length + 1 := by
  intro H
  induction H with
  | nil => rfl
  | cons a H ih =>
    unfold hIns
    split
    · rw [List.length_cons, ih, List.length_cons]
    · rfl
theorem hIns_pw {n : Nb} : ∀ {H : List Nb}, H.Pairwise (fun a b => a.1 < b.1) → (∀ m, m ∈ H → m.1 ≠ n.1) → (hIns n H).Pairwise (fun a b => a.1 < b.1) := by
  intro H
  induction H with
  | nil => intro _ _; exact List.pairwise_singleton _ _
  | cons a H ih =>
    intro hp hn
    obtain ⟨h1, h2⟩ := List.pairwise_cons.mp hp
    unfold hIns
    split
    · rename_i c
      rw [List.pairwise_cons]
      refine ⟨fun m hm => ?_, ih h2 (fun m hm => hn m (List.mem_cons_of_mem _ hm))⟩
      rcases hIns_mem.mp hm with e | h'
      · rw [e]; exact c
      · exact h1 m h'
    · rename_i c
      have := hn a List.mem_cons_self
      rw [List.pairwise_cons]
      refine ⟨fun m hm => ?_, hp⟩
      rcases List.mem_cons.mp hm with e | h'
      · rw [e]; omega
      · have := h1 m h'; omega
theorem hAt_ins {n : Nb} (key : Nat) : ∀ {H : List Nb}, (∀ m, m ∈ H → m.1 ≠ n.1) → hAt (hIns n H) key = if key = n.1 then some n else hAt H key := by
  intro H
  induction H with
  | nil =>
    intro _
    unfold hIns
    rw [hAt_cons]
    by_cases c : key = n.1
    · rw [if_pos c.symm, if_pos c]
    · rw [if_neg (fun y => c y.symm), if_neg c]
  | cons a H ih =>
    intro hn
    have h0 := hn a List.mem_cons_self
    unfold hIns
    split
    · rw [hAt_cons, hAt_cons, ih (fun m hm => hn m (List.mem_cons_of_mem _ hm))]
      by_cases c : a.1 = key
      · rw [if_pos c, if_pos c, if_neg (fun y => h0 (by omega))]
      · rw [if_neg c, if_neg c]
    · rw [hAt_cons]
      by_cases c : key = n.1
      · rw [if_pos c.symm, if_pos c]
      · rw [if_neg (fun y => c y.symm), if_neg c]
theorem hCnt_ins (n : Nb) : ∀ H : List Nb, hCnt (hIns n H) = zcnt (fun k => decide (n.2.2.2 k ≠ 0)) 16 + hCnt H := by
  intro H
  induction H with
  | nil => exact hCnt_cons n []
  | cons a H ih =>
    unfold hIns
    split
    · rw [hCnt_cons, ih, hCnt_cons]; omega
    · rw [hCnt_cons]
/-- the new one's place: behind those of less keys -/
def hPl (key : Nat) (H : List Nb) : Nat := (H.filter (fun m => decide (m.1 < key))).length
theorem hIns_split {n : Nb} : ∀ {H : List Nb}, H.Pairwise (fun a b => a.1 < b.1) → ∃ A B, H = A ++ B ∧ hIns n H = A ++ n :: B ∧ (∀ a, a ∈ A → a.1 < n.1) ∧ ∀ b, b ∈ B → ¬ b.1 < n.1 := by
  intro H
  induction H with
  | nil => intro _; exact ⟨[], [], rfl, rfl, by simp, by simp⟩
  | cons a H ih =>
    intro hp
    obtain ⟨h1, h2⟩ := List.pairwise_cons.mp hp
    unfold hIns
    by_cases c : a.1 < n.1
    · rw [if_pos c]
      obtain ⟨A, B, e1, e2, e3, e4⟩ := ih h2
      refine ⟨a :: A, B, by rw [e1]; rfl, by rw [e2]; rfl, fun x hx => ?_, e4⟩
      rcases List.mem_cons.mp hx with e | h'
      · rw [e]; exact c
      · exact e3 x h'
    · rw [if_neg c]
      refine ⟨[], a :: H, rfl, rfl, by simp, fun x hx => ?_⟩
      rcases List.mem_cons.mp hx with e | h'
      · rw [e]; exact c
      · have := h1 x h'; omega
/-- a friend is one, or no more: what is due there -/
def hFr (H : List Nb) (Ba : Nat → Option Ad) (key : Nat) (named : Bool) (now : Nat) : List Nb := if fn H key = named then H else hUpd H key (fun n => (n.1, n.2.1, named, fun k => if k < 16 then (if named = true ∧ (Ba k).isSome = true then now else 0) else n.2.2.2 k))
def hLast (H : List Nb) (key now : Nat) : List Nb := hUpd H key (fun n => (n.1, now, n.2.2))
/-- an advert is due at all friends but one -/
def hAll (H : List Nb) (r : Nat) (but : Option Nat) (now : Nat) : List Nb := H.map (fun n => if some n.1 = but ∨ n.2.2.1 = false then n else (n.1, n.2.1, n.2.2.1, zupd n.2.2.2 r now))
/-- nothing is due of a router -/
def hNo (H : List Nb) (r : Nat) : List Nb := H.map (fun n => (n.1, n.2.1, n.2.2.1, zupd n.2.2.2 r 0))
theorem fl_upd {key : Nat} {f : Nb → Nb} (hf : ∀ n, (f n).1 = n.1) (hl : ∀ n, (f n).2.1 = n.2.1) (H : List Nb) (key' : Nat) : fl (hUpd H key f) key' = fl H key' := by
  unfold fl
  rw [hAt_upd hf]
  by_cases c : key' = key
  · rw [if_pos c, c]
    cases hAt H key with
    | none => rfl
    | some n => exact hl n
  · rw [if_neg c]
theorem fn_upd {key : Nat} {f : Nb → Nb} (hf : ∀ n, (f n).1 = n.1) (hl : ∀ n, (f n).2.2.1 = n.2.2.1) (H : List Nb) (key' : Nat) : fn (hUpd H key f) key' = fn H key' := by
  unfold fn
  rw [hAt_upd hf]
  by_cases c : key' = key
  · rw [if_pos c, c]
    cases hAt H key with
    | none => rfl
    | some n => exact hl n
  · rw [if_neg c]
theorem fd_upd {key : Nat} {f : Nb → Nb} (hf : ∀ n, (f n).1 = n.1) (H : List Nb) (key' k : Nat) : fd (hUpd H key f) key' k = if key' = key then (match hAt H key with | some n => (f n).2.2.2 k | none => 0) else fd H key' k := by
  unfold fd
  rw [hAt_upd hf]
  by_cases c : key' = key
  · rw [if_pos c, if_pos c]
    cases hAt H key <;> rfl
  · rw [if_neg c, if_neg c]
theorem fd_due (H : List Nb) (key r t key' k : Nat) : fd (hDue H key r t) key' k = if key' = key ∧ k = r ∧ (hAt H key).isSome = true then t else fd H key' k := by
  unfold hDue
  rw [fd_upd (by intro _; rfl)]
  by_cases c : key' = key
  · rw [if_pos c]
    cases e : hAt H key with
    | none =>
      rw [if_neg (by simp)]
      unfold fd
      rw [c, e]
    | some n =>
      by_cases d : k = r
      · rw [if_pos ⟨c, d, rfl⟩, d]; exact zupd_s _ _ _
      · rw [if_neg (fun y => d y.2.1)]
        unfold fd
        rw [c, e]; exact zupd_n d
  · rw [if_neg c, if_neg (fun y => c y.1)]
theorem hUpd_mid {A B : List Nb} {n : Nb} {g : Nb → Nb} (hA : ∀ m, m ∈ A → m.1 ≠ n.1) (hB : ∀ m, m ∈ B → m.1 ≠ n.1) : hUpd (A ++ n :: B) n.1 g = A ++ g n :: B := by
  have e1 := hUpd_no (f := g) hA
  have e2 := hUpd_no (f := g) hB
  unfold hUpd at e1 e2 ⊢
  rw [List.map_append, List.map_cons, e1, e2, if_pos rfl]
