/-! pieces that waited too long are given up -/
def peY (E : Ev) (e : Pe) : Bool := decide (eN E < pet e + 300)
theorem pes_uq {A B : List Pe} {e x : Pe} (h : ((A ++ e :: B).map pes).Nodup) (hx : x ∈ A ++ B) : pes x ≠ pes e := fun y => by
  rw [List.map_append, List.map_cons] at h
  have h2 := List.nodup_append.mp h
  rcases List.mem_append.mp hx with m | m
  · exact h2.2.2 _ (List.mem_map.mpr ⟨x, m, rfl⟩) (pes e) List.mem_cons_self y
  · exact (List.nodup_cons.mp h2.2.1).1 (List.mem_map.mpr ⟨x, m, y⟩)
theorem zc_giveUp {E : Ev} {b ord N : Nat} (hE4 : eN E ≤ 400000) (ho : ord < 2147483648) (hN : 4 < N) : ∀ (m i nn : Nat) (z : St) (L : List Pe), i + m = 4 → m < nn → zgI z 11 4 0 = Int32.ofNat (eN E) → zPcS z b L ord → (∀ e, e ∈ L → pet e ≤ eN E) → (∀ e, e ∈ L → pes e < i → peY E e = true) →
    ∃ z', fX11_givePartialUp_2 N nn 0 b (Int32.ofNat i) z = some (0, z') ∧ zPcS z' b (L.filter (peY E)) ord ∧ (zgI z' 11 5 0 = if L.all (peY E) = true then zgI z 11 5 0 else Int32.ofNat (eN E)) ∧ (∀ k j o, ¬ (k = 11 ∧ j = 5 ∧ o = 0) → zgI z' k j o = zgI z k j o) ∧ (∀ k o i, ¬ (k = 118 ∧ o = b) → zgA z' k o i = zgA z k o i) ∧ (∀ k o i, zgL z' k o i = zgL z k o i) ∧ (∀ k o i, zgQ z' k o i = zgQ z k o i) ∧ (∀ k o i, zgR z' k o i = zgR z k o i) := by
  intro m
  induction m with
  | zero =>
    intro i nn z L hi hn hE hP ht hy
    obtain ⟨nn, rfl⟩ : ∃ k, nn = k + 1 := ⟨nn - 1, by omega⟩
    have hi : i = 4 := by omega
    subst hi
    have all : ∀ e, e ∈ L → peY E e = true := fun e he => hy e he (hP.1.2.1 e he)
    refine ⟨z, ?_, by rw [List.filter_eq_self.mpr all]; exact hP, by rw [if_pos (List.all_eq_true.mpr all)], fun _ _ _ _ => rfl, fun _ _ _ _ => rfl, fun _ _ _ => rfl, fun _ _ _ => rfl, fun _ _ _ => rfl⟩
    show fX11_givePartialUp_2b N (fX11_givePartialUp_2 N nn) 0 b (Int32.ofNat 4) z = _
    unfold fX11_givePartialUp_2b
    rw [if_pos (by decide)]
  | succ m ih =>
    intro i nn z L hi hn hE hP ht hy
    obtain ⟨nn, rfl⟩ : ∃ k, nn = k + 1 := ⟨nn - 1, by omega⟩
    have i4 : i < 4 := by omega
    obtain ⟨os, o1, o2⟩ := hP.2.1
    obtain ⟨p1, p2, p3⟩ := o1 i i4
    have go : (∀ e, e ∈ L → pes e = i → peY E e = true) → ∃ z', fX11_givePartialUp_47 N (fX11_givePartialUp_2 N nn) 0 b (Int32.ofNat i) z = some (0, z') ∧ zPcS z' b (L.filter (peY E)) ord ∧ (zgI z' 11 5 0 = if L.all (peY E) = true then zgI z 11 5 0 else Int32.ofNat (eN E)) ∧ (∀ k j o, ¬ (k = 11 ∧ j = 5 ∧ o = 0) → zgI z' k j o = zgI z k j o) ∧ (∀ k o i, ¬ (k = 118 ∧ o = b) → zgA z' k o i = zgA z k o i) ∧ (∀ k o i, zgL z' k o i = zgL z k o i) ∧ (∀ k o i, zgQ z' k o i = zgQ z k o i) ∧ (∀ k o i, zgR z' k o i = zgR z k o i) := fun h => by
      unfold fX11_givePartialUp_47
      rw [zo_i1, zl_e]
      refine ih (i + 1) nn z L (by omega) (by omega) hE hP ht (fun e he h2 => ?_)
      by_cases c : pes e = i
      · exact h e he c
      · exact hy e he (by omega)
    show ∃ z', fX11_givePartialUp_2b N (fX11_givePartialUp_2 N nn) 0 b (Int32.ofNat i) z = some (0, z') ∧ _
    unfold fX11_givePartialUp_2b
    rw [if_neg (by rw [show (4 : Int32) = Int32.ofNat 4 from rfl, zo_le (by omega) (by omega)]; omega), zkk i4 (by omega), zoC (by omega), p1]
    by_cases c : os i = 0
    · rw [if_pos (by rw [c]; rfl)]
      exact go (fun e he h => absurd (List.mem_map.mpr ⟨e, he, h⟩) (p3.mp c))
    · rw [if_neg (fun y => c ((zo_0e (by omega)).mp y)), zkk i4 (by omega)]
      have hin : i ∈ L.map pes := Classical.byContradiction (fun y => c (p3.mpr y))
      obtain ⟨e, he, hes⟩ := List.mem_map.mp hin
      have pt := ht e he
      have e117 : zgA z 117 b i = Int32.ofNat (pet e) := by rw [← hes]; exact (hP.2.2 e he).2.2.2
      rw [e117, hE, zo_sub pt]
      by_cases cy : peY E e = true
      · have cy' : eN E < pet e + 300 := of_decide_eq_true cy
        rw [if_neg (by rw [show (300 : Int32) = Int32.ofNat 300 from rfl, zo_le (by omega) (by omega)]; omega)]
        exact go (fun e2 he2 h2 => by rw [zmap_inj hP.1.1 he2 he (h2.trans hes.symm)]; exact cy)
      · have cy' : ¬ eN E < pet e + 300 := fun y => cy (decide_eq_true y)
        rw [if_pos (by rw [show (300 : Int32) = Int32.ofNat 300 from rfl, zo_le (by omega) (by omega)]; omega), zkk i4 (by omega), zl_e]
        unfold fX11_stir
        rw [zl_e, zc_e]
        obtain ⟨z1, hz1⟩ : ∃ u, u = zsI (zsA z 118 b i 0) 11 5 0 (zgI (zsA z 118 b i 0) 11 4 0) := ⟨_, rfl⟩
        rw [← hz1]
        have I1 : ∀ k j o, ¬ (k = 11 ∧ j = 5 ∧ o = 0) → zgI z1 k j o = zgI z k j o := fun k j o h => by rw [hz1, zgI_sI, if_neg h]; rfl
        have V1 : zgI z1 11 5 0 = Int32.ofNat (eN E) := by rw [hz1, zgI_sI, if_pos ⟨rfl, rfl, rfl⟩]; exact hE
        have A1 : ∀ k o j, zgA z1 k o j = if k = 118 ∧ o = b ∧ j = i then 0 else zgA z k o j := fun k o j => by rw [hz1]; show zgA (zsA z 118 b i 0) k o j = _; rw [zgA_sA]
        have L1 : ∀ k o j, zgL z1 k o j = zgL z k o j := fun k o j => by rw [hz1]; rfl
        have Q1 : ∀ k o j, zgQ z1 k o j = zgQ z k o j := fun k o j => by rw [hz1]; rfl
        have R1 : ∀ k o j, zgR z1 k o j = zgR z k o j := fun k o j => by rw [hz1]; rfl
        obtain ⟨A, B, hAB⟩ := List.append_of_mem he
        rw [hAB] at hP ht hy
        have hP1 : zPcS z1 b (A ++ B) ord := zPcS_drop hP (I1 1 9 b (by omega)) (fun j hj => by rw [A1, hes]; by_cases q : j = i
                                                                                                · rw [if_pos ⟨rfl, rfl, q⟩, if_pos q]
                                                                                                · rw [if_neg (fun y => q y.2.2), if_neg q]) (fun e2 he2 => by
          have hm : e2 ∈ A ++ e :: B := by
            rcases List.mem_append.mp he2 with y | y
            · exact List.mem_append_left _ y
            · exact List.mem_append_right _ (List.mem_cons_of_mem _ y)
          exact zPec_keep (fun j _ _ => I1 7 j _ (by omega)) (fun j => by rw [A1, if_neg (by omega)]) (fun j => L1 116 _ j) (by rw [A1, if_neg (by omega)]) (hP.2.2 e2 hm))
        have sub : ∀ x, x ∈ A ++ B → x ∈ A ++ e :: B := fun x hx => by
          rcases List.mem_append.mp hx with y | y
          · exact List.mem_append_left _ y
          · exact List.mem_append_right _ (List.mem_cons_of_mem _ y)
        obtain ⟨z', g1, g2, g3, g4, g5, g6, g7, g8⟩ := ih (i + 1) nn z1 (A ++ B) (by omega) (by omega) ((I1 11 4 0 (by omega)).trans hE) hP1 (fun x hx => ht x (sub x hx)) (fun x hx h2 => hy x (sub x hx) (by
          have := pes_uq hP.1.1 hx
          omega))
        refine ⟨z', ?_, ?_, ?_, fun k j o h => (g4 k j o h).trans (I1 k j o h), fun k o j h => (g5 k o j h).trans (by rw [A1, if_neg (fun y => h ⟨y.1, y.2.1⟩)]), fun k o j => (g6 k o j).trans (L1 k o j), fun k o j => (g7 k o j).trans (Q1 k o j), fun k o j => (g8 k o j).trans (R1 k o j)⟩
        · unfold fX11_givePartialUp_47
          rw [zo_i1, zl_e]; exact g1
        · rw [hAB, List.filter_append, List.filter_cons, if_neg cy, ← List.filter_append]; exact g2
        · have na : ¬ L.all (peY E) = true := fun y => cy (List.all_eq_true.mp y e he)
          rw [if_neg na, g3]
          by_cases q : (A ++ B).all (peY E) = true
          · rw [if_pos q]; exact V1
          · rw [if_neg q]
theorem zm_giveUp {E : Ev} {b N : Nat} {x1 : Int32} {K16 : Nat → Int32 → St → Option (Int32 × St)} (hE4 : eN E ≤ 400000) (hN : 4 < N) : ∀ (C A : List Pe) (nn : Nat) (w : St), C.length < nn → zgI w 19 24 0 = Int32.ofNat (eN E) → zPmS w b (A ++ C) → (∀ e, e ∈ C → pet e ≤ eN E) →
    ∃ w', fX19_tick_59 N K16 nn 0 x1 b (Int32.ofNat A.length) w = (if (zgI w' 12 1 b) = 0 then (fX19_tick_145 N K16 N 0 x1 b (0 : Int32) w') else (zc (fX19_neighbours N b (zgI w' 19 24 0) w') fun _ z4 => zc (fX19_base N 0 b z4) fun _ z8 => zc (fX19_ownAdvert N 0 b z8) fun _ z12 => zc (fX19_routerSpeaks N 0 b z12) fun _ z16 => zc (fX19_ways N 0 b z16) fun _ z20 => fX19_tick_168 N K16 0 x1 z20)) ∧ zPmS w' b (A ++ C.filter (peY E)) ∧ (zgI w' 19 27 0 = if C.all (peY E) = true then zgI w 19 27 0 else Int32.ofNat (eN E)) ∧ (∀ k j o, ¬ (k = 19 ∧ j = 27 ∧ o = 0) → ¬ (k = 12 ∧ j = 11 ∧ o = b) → zgI w' k j o = zgI w k j o) ∧ (∀ k o i, zgA w' k o i = zgA w k o i) ∧ (∀ k o i, zgL w' k o i = zgL w k o i) ∧ (∀ k o i, ¬ (k = 148 ∧ o = b) → zgQ w' k o i = zgQ w k o i) ∧ (∀ k o i, zgR w' k o i = zgR w k o i) := by
  intro C
  induction C with
  | nil =>
    intro A nn w hn hE hP ht
    obtain ⟨nn, rfl⟩ : ∃ k, nn = k + 1 := ⟨nn - 1, by omega⟩
    rw [List.append_nil] at hP
    refine ⟨w, ?_, by rw [List.filter_nil, List.append_nil]; exact hP, rfl, fun _ _ _ _ _ => rfl, fun _ _ _ => rfl, fun _ _ _ => rfl, fun _ _ _ _ => rfl, fun _ _ _ => rfl⟩
    show fX19_tick_59b N K16 (fX19_tick_59 N K16 nn) 0 x1 b (Int32.ofNat A.length) w = _
    unfold fX19_tick_59b
    rw [hP.1.2, if_pos (Int32.le_refl _)]
  | cons e C ih =>
    intro A nn w hn hE hP ht
    obtain ⟨nn, rfl⟩ : ∃ k, nn = k + 1 := ⟨nn - 1, by omega⟩
    have l4 := hP.1.1
    rw [List.length_append, List.length_cons] at l4
    have pt := ht e List.mem_cons_self
    have ee := hP.2.2 e (List.mem_append_right _ List.mem_cons_self)
    have e0 : fX19_tick_59 N K16 (nn + 1) 0 x1 b (Int32.ofNat A.length) w = if peY E e = true then fX19_tick_59 N K16 nn 0 x1 b (Int32.ofNat (A.length + 1)) w else zc (fX19_endPieces N b (Int32.ofNat A.length) w) fun _ z29 => zc (fX19_stir N 0 z29) fun _ z33 => fX19_tick_59 N K16 nn 0 x1 b (Int32.ofNat A.length) z33 := by
      show fX19_tick_59b N K16 (fX19_tick_59 N K16 nn) 0 x1 b (Int32.ofNat A.length) w = _
      unfold fX19_tick_59b
      rw [hP.1.2, List.length_append, List.length_cons, if_neg (by rw [zo_le (by omega) (by omega)]; omega), zkk (show A.length < 4 by omega) (by omega), zoC (by omega), zPmS_at hP, zl_e, zd_e, hE, ee.2.1, zo_sub pt]
      by_cases cy : peY E e = true
      · have cy' : eN E < pet e + 300 := of_decide_eq_true cy
        rw [if_pos (by rw [show (300 : Int32) = Int32.ofNat 300 from rfl, zo_lt (by omega) (by omega)]; omega), if_pos cy, zo_i1, zl_e]
      · have cy' : ¬ eN E < pet e + 300 := fun y => cy (decide_eq_true y)
        rw [if_neg (by rw [show (300 : Int32) = Int32.ofNat 300 from rfl, zo_lt (by omega) (by omega)]; omega), if_neg cy]
    rw [e0]
    by_cases cy : peY E e = true
    · rw [if_pos cy]
      obtain ⟨w', g1, g2, g3, g4⟩ := ih (A ++ [e]) nn w (by simp at hn; omega) hE (by rw [List.append_assoc]; exact hP) (fun x hx => ht x (List.mem_cons_of_mem _ hx))
      rw [List.length_append, show [e].length = 1 from rfl] at g1
      refine ⟨w', g1, ?_, ?_, g4⟩
      · rw [List.filter_cons, if_pos cy]
        rw [List.append_assoc] at g2; exact g2
      · rw [List.all_cons, cy, Bool.true_and]; exact g3
    · rw [if_neg cy]
      obtain ⟨w1, h1, h2, h3, h4, h5, h6, h7⟩ := zm_endPieces (N := N) hP hN
      rw [h1, zc_e]
      unfold fX19_stir
      rw [zl_e, zc_e]
      obtain ⟨w2, hw2⟩ : ∃ u, u = zsI w1 19 27 0 (zgI w1 19 24 0) := ⟨_, rfl⟩
      rw [← hw2]
      have I2 : ∀ k j o, ¬ (k = 19 ∧ j = 27 ∧ o = 0) → zgI w2 k j o = zgI w1 k j o := fun k j o h => by rw [hw2, zgI_sI, if_neg h]
      have V2 : zgI w2 19 27 0 = Int32.ofNat (eN E) := by rw [hw2, zgI_sI, if_pos ⟨rfl, rfl, rfl⟩, h3 19 24 0 (by omega)]; exact hE
      have A2 : ∀ k o j, zgA w2 k o j = zgA w1 k o j := fun k o j => by rw [hw2]; rfl
      have L2 : ∀ k o j, zgL w2 k o j = zgL w1 k o j := fun k o j => by rw [hw2]; rfl
      have Q2 : ∀ k o j, zgQ w2 k o j = zgQ w1 k o j := fun k o j => by rw [hw2]; rfl
      have hP2 : zPmS w2 b (A ++ C) := by
        obtain ⟨⟨p1, p2⟩, ⟨rest, r1, r2, r3, r4⟩, p3⟩ := h2
        exact ⟨⟨p1, (I2 12 11 b (by omega)).trans p2⟩, ⟨rest, r1, r2, r3, fun k x hk => (Q2 148 b k).trans (r4 k x hk)⟩, fun x hx => zPem_keep (fun j => I2 17 j _ (by omega)) (fun u => A2 166 _ u) (p3 x hx)⟩
      obtain ⟨w', g1, g2, g3, g4, g5, g6, g7, g8⟩ := ih A nn w2 (by simp at hn; omega) ((I2 19 24 0 (by omega)).trans ((h3 19 24 0 (by omega)).trans hE)) hP2 (fun x hx => ht x (List.mem_cons_of_mem _ hx))
      refine ⟨w', g1, ?_, ?_, fun k j o n1 n2 => (g4 k j o n1 n2).trans ((I2 k j o n1).trans (h3 k j o n2)), fun k o i => (g5 k o i).trans ((A2 k o i).trans (h4 k o i)), fun k o i => (g6 k o i).trans ((L2 k o i).trans (h5 k o i)), fun k o i n => (g7 k o i n).trans ((Q2 k o i).trans (h6 k o i n)), fun k o i => (g8 k o i).trans (((by rw [hw2]; rfl : zgR w2 k o i = zgR w1 k o i)).trans (h7 k o i))⟩
      · rw [List.filter_cons, if_neg cy]; exact g2
      · have : (e :: C).all (peY E) = false := by rw [List.all_cons, show peY E e = false from by simpa using cy, Bool.false_and]
        rw [this, if_neg (by decide), g3]
        by_cases q : C.all (peY E) = true
        · rw [if_pos q]; exact V2
        · rw [if_neg q]
