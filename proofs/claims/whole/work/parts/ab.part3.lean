/-! datagrams that are put together, the class: the row of those that wait -/
theorem zPec_keep {z z' : St} {b : Nat} {e : Pe} (h1 : ∀ j, j < 11 → j ≠ 8 → zgI z' 7 j (515 + 4 * b + pes e) = zgI z 7 j (515 + 4 * b + pes e)) (h2 : ∀ i, zgA z' 125 (515 + 4 * b + pes e) i = zgA z 125 (515 + 4 * b + pes e) i) (h3 : ∀ i, zgL z' 116 (b * 4 + pes e) i = zgL z 116 (b * 4 + pes e) i) (h4 : zgA z' 117 b (pes e) = zgA z 117 b (pes e)) (h : zPec z b e) : zPec z' b e := ⟨fun j a c => (h1 j a c).trans (h.1 j a c), fun i a c => (h2 i).trans (h.2.1 i a c), fun u hu => by
  have := h.2.2.1 u hu
  unfold zbt at this ⊢
  rw [h3]; exact this, h4.trans h.2.2.2⟩
theorem zPcS_drop {z z' : St} {b ord : Nat} {A B : List Pe} {e : Pe} (h : zPcS z b (A ++ e :: B) ord) (h9 : zgI z' 1 9 b = zgI z 1 9 b) (h118 : ∀ i, i < 4 → zgA z' 118 b i = if i = pes e then 0 else zgA z 118 b i) (hk : ∀ e2, e2 ∈ A ++ B → zPec z' b e2) : zPcS z' b (A ++ B) ord := by
  obtain ⟨⟨h1, h2, h3⟩, ⟨os, h4, h5⟩, h6⟩ := h
  have sub : (A ++ B).Sublist (A ++ e :: B) := List.Sublist.append_left (List.sublist_cons_self e B) A
  have hne : ∀ e2, e2 ∈ A ++ B → pes e2 ≠ pes e := by
    intro e2 he2 y
    rw [List.map_append, List.map_cons] at h1
    have h1' := (List.perm_middle (a := pes e) (l₁ := A.map pes) (l₂ := B.map pes)).nodup_iff.mp h1
    rw [List.nodup_cons, ← List.map_append] at h1'
    exact h1'.1 (List.mem_map.mpr ⟨e2, he2, y⟩)
  refine ⟨⟨h1.sublist (sub.map pes), fun e2 he2 => h2 e2 (sub.subset he2), h9.trans h3⟩, ⟨fun i => if i = pes e then 0 else os i, fun i hi => ?_, ?_⟩, hk⟩
  · obtain ⟨a1, a2, a3⟩ := h4 i hi
    rw [h118 i hi]
    by_cases c : i = pes e
    · rw [if_pos c]
      dsimp only
      rw [if_pos c]
      refine ⟨rfl, by omega, fun _ y => ?_, fun _ => rfl⟩
      obtain ⟨e2, he2, y2⟩ := List.mem_map.mp y
      exact hne e2 he2 (y2.trans c)
    · rw [if_neg c]
      dsimp only
      rw [if_neg c]
      refine ⟨a1, a2, a3.trans ?_⟩
      rw [List.map_append, List.map_append, List.map_cons, List.mem_append, List.mem_append, List.mem_cons]
      simp [c]
  · have h5' := h5.sublist (sub.map (fun e => os (pes e)))
    have : (A ++ B).map (fun e2 => if pes e2 = pes e then 0 else os (pes e2)) = (A ++ B).map (fun e => os (pes e)) := List.map_congr_left (fun e2 he2 => if_neg (hne e2 he2))
    rw [this]; exact h5'
theorem zPcS_upd {z z' : St} {b ord : Nat} {A B : List Pe} {e e' : Pe} (h : zPcS z b (A ++ e :: B) ord) (he : pes e' = pes e) (h9 : zgI z' 1 9 b = zgI z 1 9 b) (h118 : ∀ i, zgA z' 118 b i = zgA z 118 b i) (hk : ∀ e2, e2 ∈ A ++ B → pes e2 ≠ pes e → zPec z b e2 → zPec z' b e2) (hn : zPec z' b e') : zPcS z' b (A ++ e' :: B) ord := by
  obtain ⟨⟨h1, h2, h3⟩, ⟨os, h4, h5⟩, h6⟩ := h
  have hm : (A ++ e' :: B).map pes = (A ++ e :: B).map pes := by simp [he]
  have hm2 : (A ++ e' :: B).map (fun e => os (pes e)) = (A ++ e :: B).map (fun e => os (pes e)) := by simp [he]
  have hne : ∀ e2, e2 ∈ A ++ B → pes e2 ≠ pes e := by
    intro e2 he2 y
    rw [List.map_append, List.map_cons] at h1
    have h1' := (List.perm_middle (a := pes e) (l₁ := A.map pes) (l₂ := B.map pes)).nodup_iff.mp h1
    rw [List.nodup_cons, ← List.map_append] at h1'
    exact h1'.1 (List.mem_map.mpr ⟨e2, he2, y⟩)
  have mem : ∀ e2, e2 ∈ A ++ e' :: B → e2 = e' ∨ e2 ∈ A ++ B := fun e2 he2 => by
    rcases List.mem_append.mp he2 with c | c
    · exact Or.inr (List.mem_append.mpr (Or.inl c))
    · rcases List.mem_cons.mp c with c | c
      · exact Or.inl c
      · exact Or.inr (List.mem_append.mpr (Or.inr c))
  have back : ∀ e2, e2 ∈ A ++ B → e2 ∈ A ++ e :: B := fun e2 he2 => by
    rcases List.mem_append.mp he2 with c | c
    · exact List.mem_append.mpr (Or.inl c)
    · exact List.mem_append.mpr (Or.inr (List.mem_cons_of_mem _ c))
  refine ⟨⟨by rw [hm]; exact h1, fun e2 he2 => ?_, h9.trans h3⟩, ⟨os, fun i hi => ?_, by rw [hm2]; exact h5⟩, fun e2 he2 => ?_⟩
  · rcases mem e2 he2 with c | c
    · rw [c, he]; exact h2 e (by simp)
    · exact h2 e2 (back e2 c)
  · rw [h118, hm]; exact h4 i hi
  · rcases mem e2 he2 with c | c
    · rw [c]; exact hn
    · exact hk e2 c (hne e2 c) (h6 e2 (back e2 c))
theorem zPcS_new {z z' : St} {b ord : Nat} {L : List Pe} {e' : Pe} (h : zPcS z b L ord) (hs : pes e' < 4) (hn : pes e' ∉ L.map pes) (h9 : zgI z' 1 9 b = Int32.ofNat (ord + 1)) (h118 : ∀ i, i < 4 → zgA z' 118 b i = if i = pes e' then Int32.ofNat (ord + 1) else zgA z 118 b i) (hk : ∀ e2, e2 ∈ L → pes e2 ≠ pes e' → zPec z b e2 → zPec z' b e2) (he : zPec z' b e') : zPcS z' b (L ++ [e']) (ord + 1) := by
  obtain ⟨⟨h1, h2, h3⟩, ⟨os, h4, h5⟩, h6⟩ := h
  have hne : ∀ e2, e2 ∈ L → pes e2 ≠ pes e' := fun e2 he2 y => hn (List.mem_map.mpr ⟨e2, he2, y⟩)
  refine ⟨⟨?_, fun e2 he2 => ?_, h9⟩, ⟨fun i => if i = pes e' then ord + 1 else os i, fun i hi => ?_, ?_⟩, fun e2 he2 => ?_⟩
  · rw [List.map_append, List.nodup_append]
    refine ⟨h1, by simp, fun x hx y hy => ?_⟩
    have : y = pes e' := by simpa using hy
    rw [this]
    exact fun q => hn (by rw [← q]; exact hx)
  · rcases List.mem_append.mp he2 with c | c
    · exact h2 e2 c
    · have : e2 = e' := by simpa using c
      rw [this]; exact hs
  · obtain ⟨a1, a2, a3⟩ := h4 i hi
    rw [h118 i hi, List.map_append, List.mem_append]
    by_cases c : i = pes e'
    · rw [if_pos c]
      dsimp only
      rw [if_pos c]
      refine ⟨rfl, Nat.le_refl _, fun y => by omega, fun y => absurd (Or.inr (by simp [c])) y⟩
    · rw [if_neg c]
      dsimp only
      rw [if_neg c]
      refine ⟨a1, by omega, a3.trans ?_⟩
      simp [c]
  · rw [List.map_append, List.pairwise_append]
    have e1 : L.map (fun e2 => if pes e2 = pes e' then ord + 1 else os (pes e2)) = L.map (fun e => os (pes e)) := List.map_congr_left (fun e2 he2 => if_neg (hne e2 he2))
    rw [e1]
    refine ⟨h5, by simp, fun x hx y hy => ?_⟩
    obtain ⟨e2, he2, rfl⟩ := List.mem_map.mp hx
    have : y = ord + 1 := by simpa using hy
    rw [this]
    have := (h4 (pes e2) (h2 e2 he2)).2.1
    omega
  · rcases List.mem_append.mp he2 with c | c
    · exact hk e2 c (hne e2 c) (h6 e2 c)
    · have : e2 = e' := by simpa using c
      rw [this]; exact he
/-- the eights of a piece -/
def pUn (D : Dg) (V : Nat → Bool) : Nat → Bool := fun v => V v || (decide (df D ≤ 8 * v) && decide (8 * v < df D + dl D))
/-- a piece goes to its place: whole then, or not -/
theorem zc_put51 {z : St} {T : Tp} {b x ord N : Nat} {A B : List Pe} {e : Pe} {D : Dg} (hT : zTC z T) (hb : b < tb T) (h : zPcS z b (A ++ e :: B) ord) (hx : x < 515) (hxc : zPC 11 z x D) (hDw : zDw D) (h8 : df D % 8 = 0) (hB8 : (df D + dl D) % 8 = 0 ∨ df D + dl D = dw D) (he7 : (peD e).1 7 = D.1 7) (hew : dw (peD e) = dw D) (he2 : (peD e).2 = D.2) (heV : ∀ v, peU e v = true → 8 * v < dw D) (hN : 192 < N) :
    ∃ z', ((zAll (pUn D (peU e)) (dw D) = true ∧ fX11_putTogether_51 N b x (Int32.ofNat (pes e)) z = some (some (515 + 4 * b + pes e), z') ∧ zPcS z' b (A ++ B) ord ∧ (∀ j, j < 11 → j ≠ 8 → zgI z' 7 j (515 + 4 * b + pes e) = (peD e).1 j) ∧ (∀ i, i < dw D → zgA z' 125 (515 + 4 * b + pes e) i = D.2 i) ∧ ∀ c k, zgA z' 113 c k = if c = b ∧ k = 6 then zgA z 113 c k + 1 else zgA z 113 c k) ∨ (zAll (pUn D (peU e)) (dw D) = false ∧ fX11_putTogether_51 N b x (Int32.ofNat (pes e)) z = some (none, z') ∧ zPcS z' b (A ++ (e.1, peD e, pet e, pUn D (peU e)) :: B) ord ∧ ∀ c k, zgA z' 113 c k = zgA z 113 c k)) ∧ (∀ k j o, zgI z' k j o = zgI z k j o) ∧ (∀ k o i, ¬ (k = 125 ∧ o = 515 + 4 * b + pes e) → k ≠ 113 → ¬ (k = 118 ∧ o = b) → zgA z' k o i = zgA z k o i) ∧ (∀ k o i, ¬ (k = 116 ∧ o = b * 4 + pes e) → zgL z' k o i = zgL z k o i) := by
  obtain ⟨d6, d5, d7, dd, d14, d1⟩ := hDw
  have hes := h.1.2.1 e (by simp)
  have hpe := h.2.2 e (by simp)
  have hnd := h.1.1
  let s := pes e
  let u := 515 + 4 * b + s
  have q114 := (hT.2.1.2 b hb).2.2.2.2.2.2 s hes
  have i5 : zgI z 7 5 x = Int32.ofNat (df D) := (hxc.1 5 (by omega) (by omega)).trans d5
  have i6 : zgI z 7 6 x = Int32.ofNat (dl D) := (hxc.1 6 (by omega) (by omega)).trans d6
  have u7 : zgI z 7 7 u = Int32.ofNat (dw D) := (hpe.1 7 (by omega) (by omega)).trans (he7.trans d7)
  obtain ⟨z1, r1, r2, r3, r4, r5, r6, r7, r8⟩ := zc_addLoop (N := N) (b := b) (s := s) (x := x) (u := u) (B := df D + dl D) (f := df D) (D := D) hes (by omega) (by omega) rfl dd hB8 ((df D + dl D - df D + 7) / 8) (df D) N z (peU e) rfl h8 (Nat.le_refl _) (by omega) (by omega) i5 hxc.2 hpe.2.2.1 (fun i hi hV => by
    rw [← he2]; exact hpe.2.1 i (by rw [hew]; exact hi) hV)
  have hV : ∀ v, pUn D (peU e) v = true → 8 * v < dw D := fun v hv => by
    unfold pUn at hv
    rcases Bool.or_eq_true_iff.mp hv with c | c
    · exact heV v c
    · have := (Bool.and_eq_true_iff.mp c).2
      have : 8 * v < df D + dl D := by simpa using this
      omega
  have cnt := zc_addCount (N := N) (z := z1) (b := b) (s := s) (u := u) (w := dw D) (V := pUn D (peU e)) hes r2 hV d14 ((r4 7 7 u).trans u7) (by omega)
  have add : fX1_addPiece N b (Int32.ofNat s) x z = some (zbi (zAll (pUn D (peU e)) (dw D)), z1) := by
    unfold fX1_addPiece
    rw [zkk hes (by omega), zl_e, zoC (by omega), q114, zd_e]
    have e1 : (if (1480 : Int32) < zgI z 7 7 u then (1480 : Int32) else zgI z 7 7 u) = Int32.ofNat (dw D) := by
      rw [u7, if_neg (by rw [show (1480 : Int32) = Int32.ofNat 1480 from rfl, zo_lt (by omega) (by omega)]; omega)]
    have e2 : (if Int32.ofNat (dw D) < (zgI z 7 5 x + zgI z 7 6 x) then Int32.ofNat (dw D) else zgI z 7 5 x + zgI z 7 6 x) = Int32.ofNat (df D + dl D) := by
      rw [i5, i6, zo_add, if_neg (by rw [zo_lt (by omega) (by omega)]; omega)]
    have e3 : (if (0 : Int32) < zgI z 7 5 x then zgI z 7 5 x else (0 : Int32)) = Int32.ofNat (df D) := by
      rw [i5]
      by_cases c : df D = 0
      · rw [c]; rfl
      · rw [if_pos (by rw [show (0 : Int32) = Int32.ofNat 0 from rfl, zo_lt (by omega) (by omega)]; omega)]
    show zl (if (if (1480 : Int32) < zgI z 7 7 u then (1480 : Int32) else zgI z 7 7 u) < (zgI z 7 5 x + zgI z 7 6 x) then (if (1480 : Int32) < zgI z 7 7 u then (1480 : Int32) else zgI z 7 7 u) else zgI z 7 5 x + zgI z 7 6 x) _ = _
    rw [e1, e2, zl_e, e3, zl_e]
    exact r1.trans cnt
  have inj : ∀ e2, e2 ∈ A ++ e :: B → pes e2 = s → e2 = e := fun e2 he2 y => zmap_inj hnd he2 (by simp) y
  have keep : ∀ e2, pes e2 ≠ pes e → zPec z b e2 → zPec z1 b e2 := fun e2 hne hp2 => zPec_keep (fun j _ _ => r4 7 j _) (fun i => r5 125 _ i (fun y => hne (by have := y.2; omega))) (fun i => r6 116 _ i (fun y => hne (by have := y.2; omega))) (r5 117 b _ (fun y => by omega)) hp2
  cases c : zAll (pUn D (peU e)) (dw D) with
  | false =>
    rw [c] at add
    refine ⟨z1, Or.inr ⟨rfl, ?_, zPcS_upd (e' := (e.1, peD e, pet e, pUn D (peU e))) h rfl (r4 1 9 b) (fun i => r5 118 b i (fun y => by omega)) (fun e2 _ hne hp2 => keep e2 hne hp2) ⟨fun j a1 a2 => (r4 7 j _).trans (hpe.1 j a1 a2), fun i hi hv => ?_, fun v hv => r2 v hv, (r5 117 b _ (fun y => by omega)).trans hpe.2.2.2⟩, fun cc k => r5 113 cc k (fun y => by omega)⟩, r4, fun k o i h1 _ _ => r5 k o i h1, r6⟩
    · unfold fX11_putTogether_51
      rw [add, zc_e, if_neg (fun y => y rfl)]
    · have hi : i < dw D := by rw [← hew]; exact hi
      show zgA z1 125 u i = (peD e).2 i
      rw [he2]
      exact r3 i hi hv
  | true =>
    rw [c] at add
    let z2 : St := zsA (zsA z1 118 b s 0) 113 b 6 (zgA z1 113 b 6 + 1)
    have A2 : ∀ k o i, zgA z2 k o i = if k = 113 ∧ o = b ∧ i = 6 then zgA z1 113 b 6 + 1 else if k = 118 ∧ o = b ∧ i = s then 0 else zgA z1 k o i := fun k o i => by
      show zgA (zsA (zsA z1 118 b s 0) 113 b 6 _) k o i = _
      rw [zgA_sA, zgA_sA]
    refine ⟨z2, Or.inl ⟨rfl, ?_, zPcS_drop h (r4 1 9 b) (fun i hi => ?_) (fun e2 he2 => ?_), fun j a1 a2 => (r4 7 j u).trans (hpe.1 j a1 a2), fun i hi => ?_, fun cc k => ?_⟩, r4, fun k o i h1 h2 h3 => ?_, r6⟩
    · unfold fX11_putTogether_51
      have e6 : ∀ {β : Type} (k : Option β), zk (6 : Int32) 8 k = k := fun k => zkk (i := 6) (by decide) (by decide) k
      rw [add, zc_e, if_pos (show ¬ zbi true = 0 by decide), zkk hes (by omega), zl_e, e6, e6, zoC (by omega)]
      have e6' : zgA (zsA z1 118 b s 0) 113 b 6 = zgA z1 113 b 6 := by rw [zgA_sA, if_neg (by simp)]
      show zl (zsA (zsA z1 118 b s 0) 113 b 6 (zgA (zsA z1 118 b s 0) 113 b 6 + 1)) _ = _
      rw [e6', zl_e, zkk hes (by omega), zl_e]
      show some (zgQ z1 114 b s, z2) = _
      rw [r7, q114]
    · rw [A2, if_neg (by omega)]
      by_cases ci : i = s
      · rw [if_pos ⟨rfl, rfl, ci⟩, if_pos ci]
      · rw [if_neg (fun y => ci y.2.2), if_neg ci]
        exact r5 118 b i (fun y => by omega)
    · have hne : pes e2 ≠ pes e := fun y => by
        have h1 := hnd
        rw [List.map_append, List.map_cons] at h1
        have h1' := (List.perm_middle (a := pes e) (l₁ := A.map pes) (l₂ := B.map pes)).nodup_iff.mp h1
        rw [List.nodup_cons, ← List.map_append] at h1'
        exact h1'.1 (List.mem_map.mpr ⟨e2, he2, y⟩)
      have m2 : e2 ∈ A ++ e :: B := by
        rcases List.mem_append.mp he2 with y | y
        · exact List.mem_append.mpr (Or.inl y)
        · exact List.mem_append.mpr (Or.inr (List.mem_cons_of_mem _ y))
      refine zPec_keep (fun _ _ _ => rfl) (fun i => ?_) (fun _ => rfl) ?_ (keep e2 hne (h.2.2 e2 m2))
      · rw [A2, if_neg (by omega), if_neg (by omega)]
      · rw [A2, if_neg (by omega), if_neg (by omega)]
    · rw [A2, if_neg (by omega), if_neg (by omega)]
      have hall := (zAll_iff d14).mp c
      exact r3 i hi (hall (i / 8) (by omega))
    · rw [A2]
      by_cases cc1 : cc = b ∧ k = 6
      · rw [if_pos ⟨rfl, cc1.1, cc1.2⟩, if_pos cc1, cc1.1, cc1.2]
        congr 1
        exact r5 113 b 6 (fun y => by omega)
      · rw [if_neg (fun y => cc1 ⟨y.2.1, y.2.2⟩), if_neg (by omega), if_neg cc1]
        exact r5 113 cc k (fun y => by omega)
    · rw [A2, if_neg (fun y => h2 y.1), if_neg (fun y => h3 ⟨y.1, y.2.1⟩)]
      exact r5 k o i h1
/-- no place holds it yet: the first free one is begun, or the one that came first is given up -/
theorem zc_putNew {z : St} {T : Tp} {b x ord N : Nat} {L : List Pe} {D : Dg} {now : Int32} (hT : zTC z T) (hb : b < tb T) (h : zPcS z b L ord) (ho : ord < 2147483647) (hnow : zgI z 11 4 0 = now) (hx : x < 515) (hxc : zPC 11 z x D) (hDw : zDw D) (hpart : dl D < dw D) (hno : L.any (fun e => dSb (peD e) D) = false) (hN : 4 < N) :
    ∃ z1 s, s < 4 ∧ fX11_putTogether N 0 b x z = fX11_putTogether_51 N b x (Int32.ofNat s) z1 ∧ (∀ pid t, now = Int32.ofNat t → zPcS z1 b ((if L.length = 4 then L.tail else L) ++ [((s, pid), dFull D, t, fun _ => false)]) (ord + 1)) ∧ zgI z1 11 5 0 = (if L.length = 4 then now else zgI z 11 5 0) ∧ (∀ k j o, ¬ (k = 7 ∧ o = 515 + 4 * b + s) → ¬ (k = 1 ∧ j = 9 ∧ o = b) → ¬ (k = 11 ∧ j = 5) → zgI z1 k j o = zgI z k j o) ∧ (∀ k o i, ¬ ((k = 117 ∨ k = 118) ∧ o = b) → zgA z1 k o i = zgA z k o i) ∧ (∀ k o i, ¬ (k = 116 ∧ b * 4 ≤ o ∧ o < b * 4 + 4) → zgL z1 k o i = zgL z k o i) ∧ (∀ k o i, zgQ z1 k o i = zgQ z k o i) ∧ (∀ k o i, zgR z1 k o i = zgR z k o i) := by
  have i6 : zgI z 7 6 x = Int32.ofNat (dl D) := (hxc.1 6 (by omega) (by omega)).trans hDw.1
  have i7 : zgI z 7 7 x = Int32.ofNat (dw D) := (hxc.1 7 (by omega) (by omega)).trans hDw.2.2.1
  have d14 := hDw.2.2.2.2.1
  have pf := zc_partialFor (N := N) hT hb h (by omega) (fun j hj => hxc.1 j (by omega) (by omega)) hN
  have pn : zfst (fun i => L.any (fun e => pes e == i && dSb (peD e) D)) 4 0 = none := by
    cases e : zfst (fun i => L.any (fun e => pes e == i && dSb (peD e) D)) 4 0 with
    | none => rfl
    | some i =>
      obtain ⟨-, -, h3, -⟩ := zfst_some e
      obtain ⟨e2, he2, h4⟩ := List.any_eq_true.mp h3
      rw [List.any_eq_false] at hno
      exact absurd (Bool.and_eq_true_iff.mp h4).2 (hno e2 he2)
  rw [pn] at pf
  have ep := zc_emptyPartial (N := N) h (by omega) hN
  have hslots : ∀ y, y ∈ L.map pes → y < 4 := fun y hy => by
    obtain ⟨e, he, rfl⟩ := List.mem_map.mp hy
    exact h.1.2.1 e he
  have hL4 : L.length ≤ 4 := by
    have := zlen_sub h.1.1 (fun y hy => List.mem_range.mpr (hslots y hy))
    simpa using this
  -- the beginning itself
  have begin41 : ∀ (zz : St) (s : Nat), s < 4 → zTC zz T → (∀ j, j < 11 → j ≠ 8 → zgI zz 7 j x = D.1 j) → zgI zz 11 4 0 = now → ∃ z', fX11_putTogether_41 N 0 b x (Int32.ofNat s) zz = fX11_putTogether_51 N b x (Int32.ofNat s) z' ∧ (∀ j, j < 11 → j ≠ 8 → zgI z' 7 j (515 + 4 * b + s) = (dFull D).1 j) ∧ (∀ u, u < 192 → zbt z' 116 (b * 4 + s) u = false) ∧ zgA z' 117 b s = now ∧ zgI z' 1 9 b = zgI zz 1 9 b + 1 ∧ zgA z' 118 b s = zgI zz 1 9 b + 1 ∧ (∀ k j o, ¬ (k = 7 ∧ o = 515 + 4 * b + s) → ¬ (k = 1 ∧ j = 9 ∧ o = b) → zgI z' k j o = zgI zz k j o) ∧ (∀ k o i, ¬ ((k = 117 ∨ k = 118) ∧ o = b ∧ i = s) → zgA z' k o i = zgA zz k o i) ∧ (∀ k o i, ¬ (k = 116 ∧ o = b * 4 + s) → zgL z' k o i = zgL zz k o i) ∧ (∀ k o i, zgQ z' k o i = zgQ zz k o i) ∧ ∀ k o i, zgR z' k o i = zgR zz k o i := by
    intro zz s hs hTz hxz hnz
    obtain ⟨z', r1, r2⟩ := zc_beginPartial (N := N) (now := now) hTz hb hs (show x ≠ 515 + 4 * b + s by omega) hxz (by omega)
    refine ⟨z', ?_, r2⟩
    unfold fX11_putTogether_41
    rw [hnz, r1, zc_e]
  have fin : ∀ (zz z' : St) (s : Nat) (L1 : List Pe), s < 4 → zPcS zz b L1 ord → s ∉ L1.map pes → (∀ j, j < 11 → j ≠ 8 → zgI z' 7 j (515 + 4 * b + s) = (dFull D).1 j) → (∀ u, u < 192 → zbt z' 116 (b * 4 + s) u = false) → zgA z' 117 b s = now → zgI z' 1 9 b = zgI zz 1 9 b + 1 → (∀ i, i < 4 → zgA z' 118 b i = if i = s then zgI zz 1 9 b + 1 else zgA zz 118 b i) → (∀ k j o, k = 7 → o ≠ 515 + 4 * b + s → zgI z' k j o = zgI zz k j o) → (∀ k o i, ¬ ((k = 117 ∨ k = 118) ∧ o = b ∧ i = s) → k ≠ 118 → zgA z' k o i = zgA zz k o i) → (∀ k o i, ¬ (k = 116 ∧ o = b * 4 + s) → zgL z' k o i = zgL zz k o i) → ∀ pid t, now = Int32.ofNat t → zPcS z' b (L1 ++ [((s, pid), dFull D, t, fun _ => false)]) (ord + 1) := by
    intro zz z' s L1 hs hP hns a1 a2 a3 a4 a5 a6 a7 a8 pid t ht
    have o9 := hP.1.2.2
    refine zPcS_new (e' := ((s, pid), dFull D, t, fun _ => false)) hP hs hns (by rw [a4, o9, zo_i1]) (fun i hi => by rw [a5 i hi, o9, zo_i1]; rfl) (fun e2 _ hne hp2 => zPec_keep (fun j _ _ => a6 7 j _ rfl (fun y => hne (by show pes e2 = s; omega))) (fun i => a7 125 _ i (fun y => by omega) (by omega)) (fun i => a8 116 _ i (fun y => hne (by show pes e2 = s; omega))) (a7 117 b _ (fun y => hne (by show pes e2 = s; exact y.2.2)) (by omega)) hp2) ⟨a1, fun i _ hv => (by cases hv), a2, a3.trans ht⟩
  have hge : ∀ s, s < 4 → (0 : Int32) ≤ Int32.ofNat s := fun s hs => zo_ge (by omega)
  have run0 : fX11_putTogether N 0 b x z = (zc (fX1_emptyPartial N b z) fun r7 z8 => if 0 ≤ r7 then (fX11_putTogether_41 N 0 b x r7 z8) else (zc (fX1_earliestPartial N b z8) fun r12 z13 => zc (fX11_stir N 0 z13) fun _ z17 => fX11_putTogether_41 N 0 b x r12 z17)) := by
    unfold fX11_putTogether
    rw [i6, i7, if_pos (by rw [zo_lt (by omega) (by omega)]; exact hpart), pf, zc_e]
    rw [if_neg (by decide)]
  cases he : zfst (fun i => ! (L.any (fun e => pes e == i))) 4 0 with
  | some s =>
    obtain ⟨-, h2, h3, -⟩ := zfst_some he
    have hs : s < 4 := by omega
    have hns : s ∉ L.map pes := fun y => by
      obtain ⟨e, hee, hes⟩ := List.mem_map.mp y
      have : L.any (fun e => pes e == s) = true := List.any_eq_true.mpr ⟨e, hee, by simp [hes]⟩
      rw [this] at h3; cases h3
    have hl : ¬ L.length = 4 := fun y => by
      have := zlen_sub (a := s :: L.map pes) (b := List.range 4) (List.nodup_cons.mpr ⟨hns, h.1.1⟩) (fun q hq => by
        rcases List.mem_cons.mp hq with q1 | q1
        · rw [q1]; exact List.mem_range.mpr hs
        · exact List.mem_range.mpr (hslots q q1))
      simp at this
      omega
    rw [he] at ep
    obtain ⟨z', r1, a1, a2, a3, a4, a5, a6, a7, a8, a9, a10⟩ := begin41 z s hs hT hxc.1 hnow
    refine ⟨z', s, hs, ?_, ?_, ?_, fun k j o n1 n2 _ => a6 k j o n1 n2, fun k o i n => a7 k o i (fun y => n ⟨y.1, y.2.1⟩), fun k o i n => a8 k o i (fun y => n ⟨y.1, by omega, by omega⟩), a9, a10⟩
    · rw [run0, ep, zc_e]
      show (if 0 ≤ Int32.ofNat s then _ else _) = _
      rw [if_pos (hge s hs)]
      exact r1
    · rw [if_neg hl]
      exact fin z z' s L hs h hns a1 a2 a3 a4 (fun i hi => by
        by_cases c : i = s
        · rw [if_pos c, c]; exact a5
        · rw [if_neg c]; exact a7 118 b i (fun y => c y.2.2)) (fun k j o hk ho => a6 k j o (fun y => ho y.2) (by omega)) (fun k o i n _ => a7 k o i n) a8
    · rw [if_neg hl]
      exact a6 11 5 0 (by omega) (by omega)
  | none =>
    have hall : ∀ i, i < 4 → i ∈ L.map pes := fun i hi => by
      have := zfst_none he i (by omega) (by omega)
      have : L.any (fun e => pes e == i) = true := by simpa using this
      obtain ⟨e, hee, hes⟩ := List.any_eq_true.mp this
      exact List.mem_map.mpr ⟨e, hee, by simpa using hes⟩
    have hl : L.length = 4 := by
      have := zlen_sub (a := List.range 4) (b := L.map pes) List.nodup_range (fun y hy => hall y (List.mem_range.mp hy))
      simp at this
      omega
    rw [he] at ep
    cases L with
    | nil => simp at hl
    | cons e0 L =>
    have hl3 : L.length = 3 := by simpa using hl
    have er := zc_earliestPartial (N := N) h hl3 (by omega) hN
    have hs : pes e0 < 4 := h.1.2.1 e0 List.mem_cons_self
    have hns : pes e0 ∉ L.map pes := by
      have := h.1.1
      rw [List.map_cons, List.nodup_cons] at this
      exact this.1
    let z2 : St := zsI z 11 5 0 now
    have T2 : zTC z2 T := zTC_fr (M := 0x2000000000000000000000000000000000000000000000000000000000000000000000000000000000000000000000000000000000000000000000000000000000000000000000000000000000000000000000000000000000) (zFr_I (zFr_rf _ _) (by decide)) (by decide) hT
    have st : fX11_stir N 0 z = some (0, z2) := by
      unfold fX11_stir
      rw [hnow, zl_e]
    have I2 : ∀ k j o, ¬ (k = 11 ∧ j = 5) → zgI z2 k j o = zgI z k j o := fun k j o n => by
      show zgI (zsI z 11 5 0 now) k j o = _
      rw [zgI_sI, if_neg (fun y => n ⟨y.1, y.2.1⟩)]
    obtain ⟨z', r1, a1, a2, a3, a4, a5, a6, a7, a8, a9, a10⟩ := begin41 z2 (pes e0) hs T2 (fun j hj h8 => (I2 7 j x (by omega)).trans (hxc.1 j hj h8)) ((I2 11 4 0 (by omega)).trans hnow)
    let zv : St := zsA z2 118 b (pes e0) 0
    have hv : zPcS zv b L ord := zPcS_drop (A := []) (B := L) (e := e0) h (I2 1 9 b (by omega)) (fun i hi => by
      show zgA (zsA z2 118 b (pes e0) 0) 118 b i = _
      rw [zgA_sA]
      by_cases c : i = pes e0
      · rw [if_pos ⟨rfl, rfl, c⟩, if_pos c]
      · rw [if_neg (fun y => c y.2.2), if_neg c]; rfl) (fun e2 he2 => zPec_keep (fun j _ _ => I2 7 j _ (by omega)) (fun i => by
      show zgA (zsA z2 118 b (pes e0) 0) 125 _ i = _
      rw [zgA_sA, if_neg (by omega)]; rfl) (fun _ => rfl) (by
      show zgA (zsA z2 118 b (pes e0) 0) 117 b _ = _
      rw [zgA_sA, if_neg (by omega)]; rfl) (h.2.2 e2 (List.mem_cons_of_mem _ he2)))
    refine ⟨z', pes e0, hs, ?_, ?_, ?_, fun k j o n1 n2 n3 => (a6 k j o n1 n2).trans (I2 k j o n3), fun k o i n => a7 k o i (fun y => n ⟨y.1, y.2.1⟩), fun k o i n => a8 k o i (fun y => n ⟨y.1, by omega, by omega⟩), a9, a10⟩
    · rw [run0, ep, zc_e]
      show (if 0 ≤ (-1 : Int32) then _ else _) = _
      rw [if_neg (by decide), er, zc_e, st, zc_e]
      exact r1
    · rw [if_pos hl]
      refine fin zv z' (pes e0) L hs hv hns a1 a2 a3 a4 (fun i hi => ?_) (fun k j o hk ho => a6 k j o (fun y => ho y.2) (by omega)) (fun k o i n n8 => ?_) a8
      · by_cases c : i = pes e0
        · rw [if_pos c, c]; exact a5
        · rw [if_neg c]
          rw [a7 118 b i (fun y => c y.2.2)]
          show _ = zgA (zsA z2 118 b (pes e0) 0) 118 b i
          rw [zgA_sA, if_neg (fun y => c y.2.2)]
      · rw [a7 k o i n]
        show _ = zgA (zsA z2 118 b (pes e0) 0) k o i
        rw [zgA_sA, if_neg (fun y => n8 y.1)]
    · rw [if_pos hl, a6 11 5 0 (by omega) (by omega)]
      show zgI (zsI z 11 5 0 now) 11 5 0 = now
      rw [zgI_sI, if_pos ⟨rfl, rfl, rfl⟩]
