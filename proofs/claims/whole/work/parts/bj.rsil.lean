/-! routers, the class: who was silent is forgotten -/
theorem zdv16 : ∀ v, v < 96 → ((Int32.ofNat v) / (16 : Int32)) = Int32.ofNat (v / 16) := by decide +kernel
theorem lsplit {α : Type} : ∀ (A : List α), A ≠ [] → ∃ A' n, A = A' ++ [n]
  | [], h => absurd rfl h
  | [a], _ => ⟨[], a, rfl⟩
  | a :: b :: A, _ => by
    obtain ⟨A', n, e⟩ := lsplit (b :: A) (by simp)
    exact ⟨a :: A', n, by rw [e]; rfl⟩
/-- who is heard still -/
def hSk (T : Tp) (E : Ev) (b : Nat) (n : Nb) : Bool := eU E (tq T b (n.1 / 16) / 8) && decide (eN E - n.2.1 < 80)
def hSil (T : Tp) (E : Ev) (b : Nat) (H : List Nb) : List Nb := H.filter (hSk T E b)
theorem hSil_app (T : Tp) (E : Ev) (b : Nat) (A B : List Nb) : hSil T E b (A ++ B) = hSil T E b A ++ hSil T E b B := List.filter_append ..
theorem hSil_1 (T : Tp) (E : Ev) (b : Nat) (n : Nb) : hSil T E b [n] = if hSk T E b n = true then [n] else [] := by
  unfold hSil
  rw [List.filter_cons]
  rfl
theorem fn_erase {A B : List Nb} {n : Nb} (hp : (A ++ n :: B).Pairwise (fun a b => a.1 < b.1)) (hf : n.2.2.1 = false) (key : Nat) : fn (A ++ B) key = fn (A ++ n :: B) key := by
  have hat : hAt (A ++ n :: B) key = (hAt A key).or (if n.1 = key then some n else hAt B key) := by
    unfold hAt
    rw [List.find?_append, ← hAt, ← hAt, hAt_cons]
    rfl
  have hat2 : hAt (A ++ B) key = (hAt A key).or (hAt B key) := by
    unfold hAt
    rw [List.find?_append]
  obtain ⟨-, hp2, hp3⟩ := List.pairwise_append.mp hp
  unfold fn
  rw [hat, hat2]
  by_cases c : n.1 = key
  · have hA : hAt A key = none := hAt_none.mpr (fun m hm y => by
      have := hp3 m hm n (List.mem_cons_self ..)
      omega)
    have hB : hAt B key = none := hAt_none.mpr (fun m hm y => by
      have := (List.pairwise_cons.mp hp2).1 m hm
      omega)
    rw [hA, hB, if_pos c]
    show false = n.2.2.1
    exact hf.symm
  · rw [if_neg c]
theorem zc_forgetSilent {z : St} {T : Tp} {E : Ev} {b N : Nat} {H : List Nb} {Ba : Nat → Option Ad} (hT : zTC z T) (hc : zTc T) (hE : zEc z T E) (hE4 : eN E ≤ 400000) (hb : b < tb T) (hr : tr T b = true) (hh : zRCh z b H) (hk : zRCk z b H) (hH : zHn H) (hw : ∀ n, n ∈ H → n.1 / 16 < tp T b ∧ n.2.1 ≤ eN E) (hB : zRCb z b Ba) (hBw : zBw Ba) (hN : 16 < N) :
    ∃ z', fX11_forgetSilent N 0 b z = some (0, z') ∧ zRCh z' b (hSil T E b H) ∧ zRCk z' b (hSil T E b H) ∧ (∀ k j o, ¬ (k = 9 ∧ (j = 1 ∨ j = 5 ∨ j = 10) ∧ o = b) → zgI z' k j o = zgI z k j o) ∧ (zgI z' 9 10 b = zgI z 9 10 b ∨ zgI z' 9 10 b = 1) ∧ ((∀ key, fn (hSil T E b H) key = fn H key) ∨ zgI z' 9 10 b = 1) ∧ (∀ k o i, ¬ (k = 135 ∧ b * 96 ≤ o ∧ o < b * 96 + 96) → ¬ ((k = 131 ∨ k = 132 ∨ k = 133) ∧ o = b) → zgA z' k o i = zgA z k o i) ∧ zKr b z z' := by
  have h110 : zgR z 1 10 b = some b := (hT.2.2.1.1 _ hb hr).1
  have h912 : zgR z 9 12 b = some b := (hT.2.2.1.1 _ hb hr).2.1
  have hl16 := hH.1.2.2
  have loop : ∀ (m : Nat) (A C : List Nb) (nn : Nat) (y : St), A.length = m → m < nn → zRCh y b (A ++ C) → zRCk y b (A ++ C) → zHn (A ++ C) → (∀ n, n ∈ A → n.1 / 16 < tp T b ∧ n.2.1 ≤ eN E) → (∀ k j o, ¬ (k = 9 ∧ (j = 1 ∨ j = 5 ∨ j = 10) ∧ o = b) → zgI y k j o = zgI z k j o) → (∀ k o i, ¬ (k = 135 ∧ b * 96 ≤ o ∧ o < b * 96 + 96) → ¬ ((k = 131 ∨ k = 132 ∨ k = 133) ∧ o = b) → zgA y k o i = zgA z k o i) → zKr b z y →
      ∃ z', fX11_forgetSilent_12 N nn 0 b b (Int32.ofNat A.length - 1) y = some (0, z') ∧ zRCh z' b (hSil T E b A ++ C) ∧ zRCk z' b (hSil T E b A ++ C) ∧ (∀ k j o, ¬ (k = 9 ∧ (j = 1 ∨ j = 5 ∨ j = 10) ∧ o = b) → zgI z' k j o = zgI z k j o) ∧ (zgI z' 9 10 b = zgI y 9 10 b ∨ zgI z' 9 10 b = 1) ∧ ((∀ key, fn (hSil T E b A ++ C) key = fn (A ++ C) key) ∨ zgI z' 9 10 b = 1) ∧ (∀ k o i, ¬ (k = 135 ∧ b * 96 ≤ o ∧ o < b * 96 + 96) → ¬ ((k = 131 ∨ k = 132 ∨ k = 133) ∧ o = b) → zgA z' k o i = zgA z k o i) ∧ zKr b z z' := by
    intro m
    induction m with
    | zero =>
      intro A C nn y hA hn y1 y2 y3 y4 yI yA yK
      obtain ⟨nn, rfl⟩ : ∃ k, nn = k + 1 := ⟨nn - 1, by omega⟩
      have : A = [] := List.length_eq_zero_iff.mp hA
      subst this
      refine ⟨y, ?_, y1, y2, yI, Or.inl rfl, Or.inl (fun _ => rfl), yA, yK⟩
      show fX11_forgetSilent_12b N (fX11_forgetSilent_12 N nn) 0 b b (Int32.ofNat 0 - 1) y = _
      unfold fX11_forgetSilent_12b
      rw [if_pos (by decide)]
    | succ m ih =>
      intro A C nn y hA hn y1 y2 y3 y4 yI yA yK
      obtain ⟨nn, rfl⟩ : ∃ k, nn = k + 1 := ⟨nn - 1, by omega⟩
      obtain ⟨A', n, e⟩ := lsplit A (fun y => by rw [y] at hA; simp at hA)
      subst e
      have hA' : A'.length = m := by simpa using hA
      have eL : A' ++ [n] ++ C = A' ++ n :: C := by simp
      rw [eL] at y1 y2 y3
      have l16 := y3.1.2.2
      rw [List.length_append, List.length_cons] at l16
      have hat : (A' ++ n :: C)[A'.length]? = some n := by
        rw [List.getElem?_append_right (Nat.le_refl _), Nat.sub_self]; rfl
      have hmem := List.mem_of_getElem? hat
      have a96 := (y3.1.1 n hmem).1
      obtain ⟨np, nl⟩ := y4 n (List.mem_append.mpr (Or.inr (List.mem_cons_self ..)))
      have k131 := y1.2 _ n hat
      have k132 := (y2.2 n.1 a96).1
      have efl : fl (A' ++ n :: C) n.1 = n.2.1 := by unfold fl; rw [hAt_mem y3.1.2.1 hmem]
      rw [efl] at k132
      have ht6 := tp_le hc hb
      have q112 : zgQ y 112 b (n.1 / 16) = some (tq T b (n.1 / 16)) := (yK.2.2.2.1 112 b _).trans ((hT.2.1.2 _ hb).2.2.2.2.1 _ np)
      have r81 : zgR y 8 1 (tq T b (n.1 / 16)) = some (tq T b (n.1 / 16) / 8) := (yK.2.2.2.2 8 1 _).trans (hT.2.2.2 _ (tv_q hc hb np)).2.1
      have n24 := (tv_q hc hb np).1
      have n53 : zgI y 5 3 (tq T b (n.1 / 16) / 8) = zbi (eU E (tq T b (n.1 / 16) / 8)) := (yI 5 3 _ (by omega)).trans (hE.2 _ n24).2.2
      have n114 : zgI y 11 4 0 = Int32.ofNat (eN E) := (yI 11 4 0 (by omega)).trans hE.1
      have idx : Int32.ofNat (A' ++ [n]).length - 1 = Int32.ofNat A'.length := by
        rw [List.length_append]
        exact zo_s1 (by simp)
      have start : fX11_forgetSilent_12 N (nn + 1) 0 b b (Int32.ofNat (A' ++ [n]).length - 1) y = if hSk T E b n = true then fX11_forgetSilent_69 N (fX11_forgetSilent_12 N nn) 0 b b (Int32.ofNat A'.length) y else fX11_forgetSilent_64 N (fX11_forgetSilent_12 N nn) 0 b b (Int32.ofNat A'.length) y := by
        rw [idx]
        show fX11_forgetSilent_12b N (fX11_forgetSilent_12 N nn) 0 b b (Int32.ofNat A'.length) y = _
        unfold fX11_forgetSilent_12b
        rw [if_neg (zo_nn (by omega)), zkk (by omega) (by omega), zl_e, zoC (by omega), k131, zdv16 _ a96, zkk (by omega) (by omega), zl_e, zoC (by omega), q112, zd_e, zl_e, r81, zd_e, n53]
        unfold hSk
        cases hu : eU E (tq T b (n.1 / 16) / 8) with
        | false => rw [if_pos (show zbi false = 0 from rfl), if_neg (by simp)]
        | true =>
          rw [if_neg (show ¬ zbi true = 0 by decide), zkk a96 (by omega), zoC (by omega), n114, k132, zo_sub nl]
          by_cases c : eN E - n.2.1 < 80
          · rw [if_pos (by rw [show (80 : Int32) = Int32.ofNat 80 from rfl, zo_lt (by omega) (by omega)]; exact c), if_pos (by simp [c])]
          · rw [if_neg (by rw [show (80 : Int32) = Int32.ofNat 80 from rfl, zo_lt (by omega) (by omega)]; exact c), if_neg (by simp [c])]
      have next : ∀ y' : St, fX11_forgetSilent_69 N (fX11_forgetSilent_12 N nn) 0 b b (Int32.ofNat A'.length) y' = fX11_forgetSilent_12 N nn 0 b b (Int32.ofNat A'.length - 1) y' := fun y' => by
        unfold fX11_forgetSilent_69
        rw [zl_e, ← Int32.sub_eq_add_neg]
      have wA' : ∀ n, n ∈ A' → n.1 / 16 < tp T b ∧ n.2.1 ≤ eN E := fun n hn => y4 n (List.mem_append.mpr (Or.inl hn))
      rw [start]
      by_cases c : hSk T E b n = true
      · rw [if_pos c, next, hSil_app, hSil_1, if_pos c, List.append_assoc, eL]
        exact ih A' (n :: C) nn y hA' (by omega) y1 y2 y3 wA' yI yA yK
      · rw [if_neg c, hSil_app, hSil_1, if_neg c, List.append_nil, eL]
        obtain ⟨y', r1, r2, r3, r4, r5, r6, r7⟩ := zc_forget (N := N) y1 y2 y3 (zRCb_cg (fun k i hk => yA k b i (by omega) (by omega)) (fun o i _ _ => yA 104 o i (by omega) (by omega)) hB) hBw ((yK.2.2.2.2 9 12 b).trans h912) hN
        obtain ⟨z', s1, s2, s3, s4, s5, s6, s7, s8⟩ := ih A' C nn y' hA' (by omega) r2 r3 (zHn_erase y3) wA' (fun k j o n => (r4 k j o n).trans (yI k j o n)) (fun k o i n1 n2 => (r6 k o i n1 n2).trans (yA k o i n1 n2)) (zKr_tr yK r7)
        refine ⟨z', ?_, s2, s3, s4, ?_, ?_, s7, s8⟩
        · unfold fX11_forgetSilent_64
          rw [r1, zc_e, next]; exact s1
        · rcases s5 with y | y
          · rw [y, r5]
            split
            · exact Or.inl rfl
            · exact Or.inr rfl
          · exact Or.inr y
        · cases hf : n.2.2.1 with
          | false =>
            rcases s6 with y | y
            · exact Or.inl (fun key => (y key).trans (fn_erase y3.1.2.1 hf key))
            · exact Or.inr y
          | true =>
            right
            rcases s5 with y | y
            · rw [y, r5, hf, if_neg (by decide)]
            · exact y
  obtain ⟨z', s1, s2, s3, s4, s5, s6, s7, s8⟩ := loop H.length H [] N z rfl (by omega) (by rw [List.append_nil]; exact hh) (by rw [List.append_nil]; exact hk) (by rw [List.append_nil]; exact hH) hw (fun _ _ _ _ => rfl) (fun _ _ _ _ _ => rfl) (zKr_rf _ _)
  rw [List.append_nil] at s2 s3
  rw [List.append_nil, List.append_nil] at s6
  refine ⟨z', ?_, s2, s3, s4, s5, s6, s7, s8⟩
  unfold fX11_forgetSilent
  rw [zl_e, h110, zd_e, hh.1, zl_e]
  exact s1
