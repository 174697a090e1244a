/-! a frame is taken out of what is under way: the class, the model -/
theorem zgQ_sQ2 {z : St} {k o i : Nat} {v : Option Nat} (c : Nat) : zgQ (zsQ z k o i v) k o c = if c = i then v else zgQ z k o c := by
  rw [zgQ_sQ]
  by_cases e : c = i
  · rw [if_pos ⟨rfl, rfl, e⟩, if_pos e]
  · rw [if_neg (fun y => e y.2.2), if_neg e]
/-- the first of a place -/
theorem zc_pop {z z' : St} {fr : List Fr} {X : List Nat} {x c : Nat} (h : zQq z fr X) (hc : c < 256) (hx : zgQ z 141 0 c = some x) (h141 : ∀ d, zgQ z' 141 0 d = if d = c then zgR z 7 14 x else zgQ z 141 0 d) (h142 : ∀ d, zgQ z' 142 0 d = if d = c then (if zgR z 7 14 x = none then none else zgQ z 142 0 c) else zgQ z 142 0 d) (h12 : zgI z' 11 12 0 = zgI z 11 12 0 - 1) (h7 : ∀ j u, zgI z' 7 j u = zgI z 7 j u) (hA : ∀ u i, zgA z' 125 u i = zgA z 125 u i) (h14 : ∀ u, zgR z' 7 14 u = zgR z 7 14 u) (h11 : zgR z' 11 11 0 = zgR z 11 11 0) :
    ∃ A f B, fr = A ++ f :: B ∧ f.1 % 256 = c ∧ (∀ a, a ∈ A → a.1 % 256 ≠ c) ∧ zPC 14 z' x f.2 ∧ zQq z' (A ++ B) (x :: X) ∧ 2 ≤ x ∧ x < 515 ∧ x ∉ X := by
  obtain ⟨Fs, S, hfs, hnd, hin, hlen, hfl, hsp, hcal, hcon⟩ := h
  obtain ⟨l, hl⟩ : ∃ l, zpl Fs c = x :: l := by
    have k1 := (hcal c hc).1
    cases e : zpl Fs c with
    | nil => rw [e] at k1; have : zgQ z 141 0 c = none := k1; rw [this] at hx; cases hx
    | cons a l =>
      rw [e] at k1
      have : zgQ z 141 0 c = some a := k1.1
      rw [this] at hx; cases hx; exact ⟨l, rfl⟩
  obtain ⟨A, f, B, e1, e2, e3, e4, e5⟩ := zCal_pop (fd' := fun d => zgQ z' 141 0 d) (ld' := fun d => zgQ z' 142 0 d) hcal hc hl (fun d _ => h141 d) (fun d _ => h142 d)
  have hmem : (x, f) ∈ Fs := by rw [e1]; simp
  have hx1 : x ∈ Fs.map (fun f => f.1) := List.mem_map.mpr ⟨_, hmem, rfl⟩
  obtain ⟨r1, r2⟩ := hin x (List.mem_append.mpr (Or.inl hx1))
  have hxX : x ∉ X := fun m => (List.nodup_append.mp hnd).2.2 x hx1 x (List.mem_append.mpr (Or.inr m)) rfl
  have pcg : ∀ {m u : Nat} {D : Dg}, zPC m z u D → zPC m z' u D := fun p => zPC_cg (fun j _ => h7 j _) (fun i => hA _ i) p
  have e14 : (fun x => zgR z' 7 14 x) = (fun x => zgR z 7 14 x) := funext (fun u => h14 u)
  have hpm : (Fs.map (fun f => f.1) ++ (S ++ X)).Perm ((A ++ B).map (fun f => f.1) ++ (S ++ x :: X)) := by
    rw [e1]
    simp only [List.map_append, List.map_cons, List.append_assoc]
    refine List.Perm.append_left _ ?_
    have : (x :: (B.map (fun f => f.1) ++ (S ++ X))).Perm (B.map (fun f => f.1) ++ (S ++ x :: X)) := by
      rw [← List.append_assoc, ← List.append_assoc]
      exact List.perm_middle.symm
    exact this
  refine ⟨A.map (fun f => f.2), f, B.map (fun f => f.2), ?_, e2, fun a ha => ?_, pcg (hcon _ hmem), ⟨A ++ B, S, ?_, hpm.nodup_iff.mp hnd, fun y hy => hin y (hpm.mem_iff.mpr hy), ?_, ?_, ?_, ?_, fun q hq => pcg (hcon q ?_)⟩, r1, r2, hxX⟩
  · rw [← hfs, e1]; simp
  · obtain ⟨b, hb, rfl⟩ := List.mem_map.mp ha
    exact e3 b hb
  · simp
  · have : fr.length = Fs.length := by rw [← hfs]; simp
    have l1 : Fs.length = A.length + (B.length + 1) := by rw [e1]; simp
    simp
    omega
  · have l0 : fr.length = A.length + (B.length + 1) := by rw [← hfs, e1]; simp
    rw [h12, hfl, l0, show A.length + (B.length + 1) = (A.length + B.length) + 1 by omega, zo_s1 (by omega)]
    simp
  · rw [e14, h11]; exact hsp
  · have : zCal (fun x => zgR z 7 14 x) (fun d => zgQ z' 141 0 d) (fun d => zgQ z' 142 0 d) (A ++ B) := e5
    rw [e14]; exact this
  · rw [e1]
    rcases List.mem_append.mp hq with h | h
    · exact List.mem_append.mpr (Or.inl h)
    · exact List.mem_append.mpr (Or.inr (List.mem_cons_of_mem _ h))
/-- a parcel is spare again -/
theorem zc_giveB {z : St} {fr : List Fr} {X : List Nat} {x : Nat} (h : zQq z fr (x :: X)) : zQq (zsR (zsR z 7 14 x (zgR z 11 11 0)) 11 11 0 (some x)) fr X := by
  obtain ⟨Fs, S, hfs, hnd, hin, hlen, hfl, hsp, hcal, hcon⟩ := h
  obtain ⟨z', hz'⟩ : ∃ y, y = zsR (zsR z 7 14 x (zgR z 11 11 0)) 11 11 0 (some x) := ⟨_, rfl⟩
  have r14 : ∀ u, zgR z' 7 14 u = if u = x then zgR z 11 11 0 else zgR z 7 14 u := fun u => by
    rw [hz', zgR_sR, if_neg (by omega), zgR_sR]
    by_cases e : u = x
    · rw [if_pos ⟨rfl, rfl, e⟩, if_pos e]
    · rw [if_neg (fun y => e y.2.2), if_neg e]
  have r11 : zgR z' 11 11 0 = some x := by rw [hz', zgR_sR, if_pos ⟨rfl, rfl, rfl⟩]
  have hpm : (Fs.map (fun f => f.1) ++ (S ++ x :: X)).Perm (Fs.map (fun f => f.1) ++ ((x :: S) ++ X)) := List.Perm.append_left _ List.perm_middle
  have nd1 := hpm.nodup_iff.mp hnd
  have nd2 : ((x :: S) ++ X).Nodup := (List.nodup_append.mp nd1).2.1
  have xS : x ∉ S := by
    intro m
    have := (List.nodup_cons.mp nd2).1
    exact this (List.mem_append.mpr (Or.inl m))
  have xF : ∀ c, x ∉ zpl Fs c := fun c m => (List.nodup_append.mp nd1).2.2 x (zpl_mem m) x (by simp) rfl
  rw [← hz']
  refine ⟨Fs, x :: S, hfs, nd1, fun y hy => hin y (hpm.mem_iff.mpr hy), ?_, ?_, ⟨r11, ?_⟩, fun c hc => ⟨?_, ?_⟩, fun q hq => ?_⟩
  · simp at hlen ⊢; omega
  · rw [hz']; exact hfl
  · show zChn (fun x => zgR z' 7 14 x) (zgR z' 7 14 x) S
    rw [r14 x, if_pos rfl]
    refine zChn_cg (fun a ha => ?_) hsp
    rw [r14, if_neg (fun y => xS (by rw [← y]; exact ha))]
  · have q : ∀ d, zgQ z' 141 0 d = zgQ z 141 0 d := fun d => by rw [hz']; rfl
    show zChn (fun x => zgR z' 7 14 x) (zgQ z' 141 0 c) (zpl Fs c)
    rw [q]
    refine zChn_cg (fun a ha => ?_) (hcal c hc).1
    rw [r14, if_neg (fun y => xF c (by rw [← y]; exact ha))]
  · have q : ∀ d, zgQ z' 142 0 d = zgQ z 142 0 d := fun d => by rw [hz']; rfl
    show zgQ z' 142 0 c = _
    rw [q]; exact (hcal c hc).2
  · exact zPC_cg (fun j _ => by rw [hz']; rfl) (fun i => by rw [hz']; rfl) (hcon q hq)
/-- the frames behind move up -/
theorem zm_takeFrame {w : St} {k c N : Nat} (hk : k < c) (hc : c ≤ 512) (h23 : zgI w 19 23 0 = Int32.ofNat c) (hN : 3600 < N) : ∃ w', fX19_takeFrame N 0 (Int32.ofNat k) w = some (0, w') ∧ zgI w' 19 23 0 = Int32.ofNat (c - 1) ∧ (∀ i, zgA w' 188 0 i = if 7 * k ≤ i ∧ i < 7 * (c - 1) then zgA w 188 0 (i + 7) else zgA w 188 0 i) ∧ (∀ k j o, ¬ (k = 19 ∧ j = 23 ∧ o = 0) → zgI w' k j o = zgI w k j o) ∧ (∀ k o i, ¬ (k = 188 ∧ o = 0) → zgA w' k o i = zgA w k o i) ∧ (∀ k o i, zgL w' k o i = zgL w k o i) ∧ (∀ k o i, zgQ w' k o i = zgQ w k o i) ∧ (∀ k o i, zgR w' k o i = zgR w k o i) := by
  have key : ∀ (n i nn : Nat) (u : St), i + n = 7 * (c - 1) → n < nn → zgI u 19 23 0 = Int32.ofNat (c - 1) → ∃ u', fX19_takeFrame_15 N nn 0 (Int32.ofNat i) u = some (0, u') ∧ (∀ j, zgA u' 188 0 j = if i ≤ j ∧ j < 7 * (c - 1) then zgA u 188 0 (j + 7) else zgA u 188 0 j) ∧ (∀ k j o, zgI u' k j o = zgI u k j o) ∧ (∀ k o j, ¬ (k = 188 ∧ o = 0) → zgA u' k o j = zgA u k o j) ∧ (∀ k o j, zgL u' k o j = zgL u k o j) ∧ (∀ k o j, zgQ u' k o j = zgQ u k o j) ∧ (∀ k o j, zgR u' k o j = zgR u k o j) := by
    intro n
    induction n with
    | zero =>
      intro i nn u hi hn h
      obtain ⟨nn, rfl⟩ : ∃ k, nn = k + 1 := ⟨nn - 1, by omega⟩
      refine ⟨u, ?_, fun j => by rw [if_neg (by omega)], fun _ _ _ => rfl, fun _ _ _ _ => rfl, fun _ _ _ => rfl, fun _ _ _ => rfl, fun _ _ _ => rfl⟩
      show fX19_takeFrame_15b N (fX19_takeFrame_15 N nn) 0 (Int32.ofNat i) u = _
      unfold fX19_takeFrame_15b
      rw [h, zmu7, if_pos (by rw [zo_le (by omega) (by omega)]; omega)]
    | succ n ih =>
      intro i nn u hi hn h
      obtain ⟨nn, rfl⟩ : ∃ k, nn = k + 1 := ⟨nn - 1, by omega⟩
      obtain ⟨u', r1, r2, r3, r4, r5, r6, r7⟩ := ih (i + 1) nn (zsA u 188 0 i (zgA u 188 0 (i + 7))) (by omega) (by omega) (by rw [zgI_sA]; exact h)
      refine ⟨u', ?_, fun j => ?_, fun k j o => by rw [r3, zgI_sA], fun k o j q => by rw [r4 k o j q, zgA_sA, if_neg (fun y => q ⟨y.1, y.2.1⟩)], fun k o j => by rw [r5]; rfl, fun k o j => by rw [r6]; rfl, fun k o j => by rw [r7]; rfl⟩
      · show fX19_takeFrame_15b N (fX19_takeFrame_15 N nn) 0 (Int32.ofNat i) u = _
        unfold fX19_takeFrame_15b
        rw [h, zmu7, if_neg (by rw [zo_le (by omega) (by omega)]; omega), show Int32.ofNat i + (7 : Int32) = Int32.ofNat (i + 7) from zo_add i 7, zkk (by omega) (by omega), zkk (by omega) (by omega), zl_e, zoC (by omega), zoC (by omega), zl_e, zo_i1]
        exact r1
      · rw [r2]
        by_cases e : j = i
        · subst e
          rw [if_neg (by omega), if_pos (by omega), zgA_sA, if_pos ⟨rfl, rfl, rfl⟩]
        · by_cases q : i + 1 ≤ j ∧ j < 7 * (c - 1)
          · rw [if_pos q, if_pos (by omega), zgA_sA, if_neg (by omega)]
          · rw [if_neg q, if_neg (by omega), zgA_sA, if_neg (by omega)]
  have h1 : zgI (zsI w 19 23 0 (zgI w 19 23 0 - 1)) 19 23 0 = Int32.ofNat (c - 1) := by rw [zgI_sI, if_pos ⟨rfl, rfl, rfl⟩, h23, zo_s1 (by omega)]
  obtain ⟨u', r1, r2, r3, r4, r5, r6, r7⟩ := key (7 * (c - 1) - 7 * k) (7 * k) N _ (by omega) (by omega) h1
  refine ⟨u', ?_, (r3 _ _ _).trans h1, fun i => by rw [r2]; rfl, fun k j o q => by rw [r3, zgI_sI, if_neg q], fun k o i q => by rw [r4 k o i q]; rfl, fun k o i => by rw [r5]; rfl, fun k o i => by rw [r6]; rfl, fun k o i => by rw [r7]; rfl⟩
  unfold fX19_takeFrame
  rw [zl_e, zmu7, zl_e]
  exact r1
theorem hold_mid (X : List Nat) (MA MB : List (Option Nat)) (mw : Nat → List Nat) (d : Nat) : (hold X (MA ++ some d :: MB) mw).Perm (hold (d :: X) (MA ++ MB) mw) := by
  unfold hold
  rw [List.filterMap_append, List.filterMap_append, List.filterMap_cons_some (by rfl)]
  simp only [List.append_assoc, List.cons_append]
  have : (X ++ (MA.filterMap id ++ d :: (MB.filterMap id ++ (List.range 192).flatMap mw))).Perm (d :: (X ++ (MA.filterMap id ++ (MB.filterMap id ++ (List.range 192).flatMap mw)))) := by
    rw [← List.append_assoc, ← List.append_assoc]
    exact List.perm_middle
  exact this
theorem hold_mid0 (X : List Nat) (MA MB : List (Option Nat)) (mw : Nat → List Nat) : hold X (MA ++ none :: MB) mw = hold X (MA ++ MB) mw := by
  unfold hold
  rw [List.filterMap_append, List.filterMap_append, List.filterMap_cons_none (by rfl)]
/-- a frame goes into the model's hands -/
theorem zm_takeF {w : St} {T : Tp} {E : Ev} {K : Int32 → Int32 → Int32 → Prop} {g : Sg} {X TS TA TB : List Nat} {A B : List Fr} {f : Fr} {N : Nat} (h : zMV w T E g K X TS TA TB) (hX : X.length < 99) (hg : gF g = A ++ f :: B) (hN : 3600 < N) :
    ∃ w' kind addr dv X', fX19_takeFrame N 0 (Int32.ofNat A.length) w = some (0, w') ∧ (zgA w 188 0 (7 * A.length) = f.2.1 12 ∧ zgA w 188 0 (7 * A.length + 1) = f.2.1 13 ∧ zgA w 188 0 (7 * A.length + 2) = f.2.1 11 ∧ zgA w 188 0 (7 * A.length + 3) = kind ∧ zgA w 188 0 (7 * A.length + 4) = addr ∧ zgA w 188 0 (7 * A.length + 5) = dv ∧ zgA w 188 0 (7 * A.length + 6) = Int32.ofNat f.1) ∧ ((dv = -1 ∧ X' = X) ∨ ∃ d, d < 2400 ∧ dv = Int32.ofNat d ∧ X' = d :: X) ∧ zPm w' T K X' kind addr dv f.2 ∧ zMV w' T E (sF g (A ++ B)) K X' TS TA TB ∧ (∀ d D, d ∈ X → zMD w T K d D → zMD w' T K d D) ∧ zFr 0x1000000000000000000000000000000008000000000000000000000000000000000000000000000000000000000000000000000000000000000000000000000000000000000000000000000000000000000000000000000000000000000000000000000000000000000000000000000000000000000000000000000000000000000000000000000000000000000000000000000000000000000000000000000000000000000000000000000 w w' := by
  obtain ⟨hT, hc, hE, hw, ⟨hTm, hCm, ms, mw, hF, hW, hP⟩, hAm, hHm⟩ := h
  obtain ⟨F1, F2, F3, F4⟩ := hF
  rw [hg] at F1 F2 F3 F4
  have hl : (A ++ f :: B).length = A.length + (B.length + 1) := by simp
  obtain ⟨w', r1, r2, r3, r4, r5, r6, r7, r8⟩ := zm_takeFrame (w := w) (k := A.length) (c := (A ++ f :: B).length) (N := N) (by omega) F3 F2 hN
  have fr : zFr 0x1000000000000000000000000000000008000000000000000000000000000000000000000000000000000000000000000000000000000000000000000000000000000000000000000000000000000000000000000000000000000000000000000000000000000000000000000000000000000000000000000000000000000000000000000000000000000000000000000000000000000000000000000000000000000000000000000000000 w w' := by
    refine ⟨fun k j o hk hm => ⟨r4 k j o ?_, r8 k j o⟩, fun k o i hm => ⟨r5 k o i ?_, r6 k o i, r7 k o i⟩⟩
    · rintro ⟨rfl, rfl, -⟩; revert hm; decide
    · rintro ⟨rfl, -⟩; revert hm; decide
  have hml : A.length < ms.length := by rw [F1]; omega
  obtain ⟨MA, m, MB, hms, hMA⟩ : ∃ MA m MB, ms = MA ++ m :: MB ∧ MA.length = A.length := by
    refine ⟨ms.take A.length, ms[A.length], ms.drop (A.length + 1), ?_, by simp; omega⟩
    rw [← List.drop_eq_getElem_cons hml, List.take_append_drop]
  have f0 : zFr1 w T K A.length f m := F4 A.length f m (by simp) (by rw [hms, List.getElem?_append_right (by omega)]; simp [hMA])
  have md' : ∀ d D, zMD w T K d D → zMD w' T K d D := fun d D q => zMD_cg q.1.1 (fun k _ => r5 172 0 _ (by omega)) (fun k i => r5 174 k i (by omega)) (fun k i => r6 175 k i) (fun k i => r5 178 k i (by omega)) rfl (fun _ _ => rfl) q
  have newF : zFm w' T K (A ++ B) (MA ++ MB) := by
    have lMB : MB.length = B.length := by
      rw [hms] at F1; simp at F1; omega
    refine ⟨by simp [hMA, lMB], ?_, by simp at F3 ⊢; omega, fun i f' m' hf hm => ?_⟩
    · rw [r2, hl]; congr 1; simp
    · by_cases c : i < A.length
      · have hf' : (A ++ f :: B)[i]? = some f' := by
          rw [List.getElem?_append_left c] at hf ⊢; exact hf
        have hm' : ms[i]? = some m' := by
          rw [hms]
          rw [List.getElem?_append_left (by omega)] at hm ⊢; exact hm
        obtain ⟨⟨q0, q1, q2, q3⟩, q4⟩ := F4 i f' m' hf' hm'
        have rr : ∀ j, j < 7 → zgA w' 188 0 (7 * i + j) = zgA w 188 0 (7 * i + j) := fun j hj => by rw [r3, if_neg (by omega)]
        have rr0 := rr 0 (by omega)
        rw [Nat.add_zero] at rr0
        refine ⟨⟨rr0.trans q0, (rr 1 (by omega)).trans q1, (rr 2 (by omega)).trans q2, (rr 6 (by omega)).trans q3⟩, ?_⟩
        rw [rr 3 (by omega), rr 4 (by omega), rr 5 (by omega)]
        rcases q4 with y | y | ⟨y1, y2, d, y3, y4, y5, y6, y7⟩
        · exact Or.inl y
        · exact Or.inr (Or.inl y)
        · exact Or.inr (Or.inr ⟨y1, y2, d, y3, y4, y5, y6, md' d _ y7⟩)
      · have hi : i - A.length < B.length := by
          have := (List.getElem?_eq_some_iff.mp hf).1
          simp at this; omega
        have hf' : (A ++ f :: B)[i + 1]? = some f' := by
          rw [List.getElem?_append_right (by omega)] at hf ⊢
          rw [show i + 1 - A.length = (i - A.length) + 1 by omega, List.getElem?_cons_succ]; exact hf
        have hm' : ms[i + 1]? = some m' := by
          rw [hms]
          rw [List.getElem?_append_right (by omega)] at hm ⊢
          rw [show i + 1 - MA.length = (i - MA.length) + 1 by omega, List.getElem?_cons_succ]; exact hm
        obtain ⟨⟨q0, q1, q2, q3⟩, q4⟩ := F4 (i + 1) f' m' hf' hm'
        have rr : ∀ j, j < 7 → zgA w' 188 0 (7 * i + j) = zgA w 188 0 (7 * (i + 1) + j) := fun j hj => by
          rw [r3, if_pos (by omega), show 7 * i + j + 7 = 7 * (i + 1) + j by omega]
        have rr0 := rr 0 (by omega)
        rw [Nat.add_zero, Nat.add_zero] at rr0
        refine ⟨⟨rr0.trans q0, (rr 1 (by omega)).trans q1, (rr 2 (by omega)).trans q2, (rr 6 (by omega)).trans q3⟩, ?_⟩
        rw [rr 3 (by omega), rr 4 (by omega), rr 5 (by omega)]
        rcases q4 with y | y | ⟨y1, y2, d, y3, y4, y5, y6, y7⟩
        · exact Or.inl y
        · exact Or.inr (Or.inl y)
        · exact Or.inr (Or.inr ⟨y1, y2, d, y3, y4, y5, y6, md' d _ y7⟩)
  have newW : zWm w' T K (sF g (A ++ B)) mw := ⟨fun q hq => zWqm_cg (r4 18 12 q (by omega)) (fun i => r5 170 q i (by omega)) (fun i => r5 171 q i (by omega)) (fun d D _ h => md' d D h) (hW.1 q hq), hW.2⟩
  have base : ∀ X', zMp w' (hold X' (MA ++ MB) mw) TS TA TB → zMV w' T E (sF g (A ++ B)) K X' TS TA TB := fun X' hp => ⟨zTM_fr fr (by decide) hT, hc, zEm_fr fr (by decide) hE, hw, ⟨zTm_fr (g := g) fr (by decide) hTm, zCm_fr (g := g) fr (by decide) hCm, MA ++ MB, mw, newF, newW, hp⟩, zAm_fr (g := g) fr (by decide) hAm, zHm_fr (g := g) fr (by decide) hHm⟩
  obtain ⟨⟨a0, a1, a2, a3⟩, a4⟩ := f0
  have hPw : zMp w' (hold X ms mw) TS TA TB := zMp_fr fr (by decide) hP
  rcases a4 with ⟨y1, y2, y3, y4, y5⟩ | ⟨y1, y2, y3, y4, y5⟩ | ⟨y1, y2, d, y3, y4, y5, y6, y7⟩
  · rw [hms, y2, hold_mid0] at hPw
    exact ⟨w', 0, f.2.1 1, -1, X, r1, ⟨a0, a1, a2, y3, y4, y5, a3⟩, Or.inl ⟨rfl, rfl⟩, Or.inl ⟨y1, rfl, rfl, rfl⟩, base X hPw, fun d D _ h => md' d D h, fr⟩
  · rw [hms, y2, hold_mid0] at hPw
    exact ⟨w', 1, 0, -1, X, r1, ⟨a0, a1, a2, y3, y4, y5, a3⟩, Or.inl ⟨rfl, rfl⟩, Or.inr (Or.inl ⟨y1, rfl, rfl, rfl⟩), base X hPw, fun d D _ h => md' d D h, fr⟩
  · rw [hms, y3] at hPw
    have hPw := zMp_perm (hold_mid X MA MB mw d) hPw
    exact ⟨w', 2, 0, Int32.ofNat d, d :: X, r1, ⟨a0, a1, a2, y4, y5, y6, a3⟩, Or.inr ⟨d, y7.1.1, rfl, rfl⟩, Or.inr (Or.inr ⟨y1, y2, rfl, rfl, d, List.mem_cons_self, rfl, md' d _ y7⟩), base _ hPw, fun d D _ h => md' d D h, fr⟩
