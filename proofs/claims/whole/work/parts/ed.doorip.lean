/-! a door and its end change: what is so of all stays so -/
def zDk (e : Nat) (z z' : St) : Prop := (∀ k j o, ¬ ((k = 2 ∨ k = 3 ∨ k = 4 ∨ k = 6 ∨ k = 10) ∧ o = e) → ¬ (k = 11 ∧ j = 8) → zgI z' k j o = zgI z k j o) ∧ (∀ k o i, ¬ ((k = 120 ∨ k = 121 ∨ k = 124) ∧ o = e) → zgA z' k o i = zgA z k o i) ∧ (∀ k o i, zgL z' k o i = zgL z k o i) ∧ (∀ k o i, zgQ z' k o i = zgQ z k o i) ∧ ∀ k o i, zgR z' k o i = zgR z k o i
def zDm (e : Nat) (w w' : St) : Prop := (∀ k j o, ¬ ((k = 13 ∨ k = 14) ∧ o = e) → ¬ (k = 19 ∧ (j = 17 ∨ j = 26)) → zgI w' k j o = zgI w k j o) ∧ (∀ k o i, ¬ ((k = 159 ∨ k = 160 ∨ k = 161) ∧ o = e) → ¬ (182 ≤ k ∧ k ≤ 185) → zgA w' k o i = zgA w k o i)
theorem zDk_dr {e : Nat} {z z' : St} (h : zDrC e z z') : zDk e z z' := ⟨fun k j o a b => h.1 k j o (by omega) b, h.2⟩
theorem zDm_dr {e : Nat} {w w' : St} (h : zDrM e w w') : zDm e w w' := ⟨fun k j o a b => h.1 k j o (by omega) (by omega) (by omega), fun k o i _ _ => h.2.1 k o i⟩
theorem zDk_tr {e : Nat} {x y z : St} (h1 : zDk e x y) (h2 : zDk e y z) : zDk e x z := ⟨fun k j o a b => (h2.1 k j o a b).trans (h1.1 k j o a b), fun k o i a => (h2.2.1 k o i a).trans (h1.2.1 k o i a), fun k o i => (h2.2.2.1 k o i).trans (h1.2.2.1 k o i), fun k o i => (h2.2.2.2.1 k o i).trans (h1.2.2.2.1 k o i), fun k o i => (h2.2.2.2.2 k o i).trans (h1.2.2.2.2 k o i)⟩
theorem zDm_tr {e : Nat} {x y z : St} (h1 : zDm e x y) (h2 : zDm e y z) : zDm e x z := ⟨fun k j o a b => (h2.1 k j o a b).trans (h1.1 k j o a b), fun k o i a b => (h2.2 k o i a b).trans (h1.2 k o i a b)⟩
theorem zDk_c {e : Nat} {z z' : St} (h : zEc1 e z z') : zDk e z z' := ⟨fun k j o a _ => h.1 k j o (by omega), h.2⟩
theorem zDm_e {e : Nat} {w w' : St} (h : zEm1 e w w') : zDm e w w' := ⟨fun k j o a b => h.1 k j o (by omega), fun k o i a _ => h.2.1 k o i a⟩
theorem zNC_dk {z z' : St} {T : Tp} {E : Ev} {g : Sg} {X : List Nat} {e : Nat} (f : zDk e z z') (h : zNC z T E g X) : zNC z' T E g X := by
  obtain ⟨h1, h2, h3, h4, ⟨t1, t2, t3⟩, h6, h7, h8, h9, hX⟩ := h
  have gI : ∀ k j o, ¬ (k = 2 ∨ k = 3 ∨ k = 4 ∨ k = 6 ∨ k = 10) → ¬ (k = 11 ∧ j = 8) → zgI z' k j o = zgI z k j o := fun k j o a c => f.1 k j o (by omega) c
  have gA : ∀ k o i, ¬ (k = 120 ∨ k = 121 ∨ k = 124) → zgA z' k o i = zgA z k o i := fun k o i a => f.2.1 k o i (by omega)
  have gQ := f.2.2.2.1
  have gR := f.2.2.2.2
  have hp : ∀ u, (∀ j, zgI z' 7 j u = zgI z 7 j u) ∧ ∀ i, zgA z' 125 u i = zgA z 125 u i := fun u => ⟨fun j => f.1 7 j u (by omega) (by omega), fun i => f.2.1 125 u i (by omega)⟩
  refine ⟨?_, h2, ?_, h4, ⟨?_, ⟨?_, ?_, ?_⟩, ?_⟩, ?_, ?_, ?_, ?_, hX⟩
  · unfold zTC at h1 ⊢
    simp (disch := decide) only [gI, gQ, gR]
    exact h1
  · unfold zEc at h3 ⊢
    simp (disch := decide) only [gI]
    exact h3
  · unfold zTr at t1 ⊢
    simp (disch := decide) only [gI, gA]
    exact t1
  · intro n hn
    rw [gI 5 9 n (by omega) (by omega)]; exact t2.1 n hn
  · intro c hc
    rw [f.2.1 113 c 5 (by omega)]; exact t2.2.1 c hc
  · rw [gI 11 5 0 (by omega) (by omega)]; exact t2.2.2
  · obtain ⟨Fs, S, hfs, hnd, hin, hlen, hfl, hsp, hcal, hcon⟩ := t3
    have e14 : (fun x => zgR z' 7 14 x) = (fun x => zgR z 7 14 x) := funext (fun x => gR 7 14 x)
    have e141 : (fun c => zgQ z' 141 0 c) = (fun c => zgQ z 141 0 c) := funext (fun x => gQ 141 0 x)
    have e142 : (fun c => zgQ z' 142 0 c) = (fun c => zgQ z 142 0 c) := funext (fun x => gQ 142 0 x)
    refine ⟨Fs, S, hfs, hnd, hin, hlen, ?_, ?_, ?_, fun q hq => ?_⟩
    · rw [gI 11 12 0 (by omega) (by omega)]; exact hfl
    · rw [e14, gR]; exact hsp
    · rw [e14, e141, e142]; exact hcal
    · have p := hp q.1
      exact zPC_cg (fun j _ => p.1 j) p.2 (hcon q hq)
  · intro q hq
    exact ⟨(h6 q hq).1, zWq_cg (gI 8 12 q (by omega) (by omega)) (fun i => gQ 130 q i) (fun u _ _ => hp u) (h6 q hq).2⟩
  · unfold zAc at h7 ⊢
    simp (disch := decide) only [gI, gA]
    exact h7
  · unfold zHc at h8 ⊢
    simp (disch := decide) only [gA]
    exact h8
  · exact ⟨((hp 1).1 3).trans h9.1, fun i => ((hp 1).2 i).trans (h9.2 i)⟩
theorem zIp_dk {z z' w w' : St} {T : Tp} {E : Ev} {g : Sg} {Wy : Wyt} {R : Rg} {mk : Nat → Nat} {K : Int32 → Int32 → Int32 → Prop} {X XM XM' TS TS' TA TB TB' : List Nat} {e : Nat} (hp : zIp z w T E g g Wy R mk K X XM TS TA TB) (fc : zDk e z z') (fm : zDm e w w') (n : zMV w' T E g K XM' TS' TA TB') (hd : hEnd T e → zRd z' w' e) : zIp z' w' T E g g Wy R mk K X XM' TS' TA TB' := by
  obtain ⟨⟨p1, p2, p3, p4, ⟨p5, p6, p7⟩, p8, p9, p10⟩, hR, hW⟩ := hp
  have hc := p2.2.1
  have gA : ∀ k o i, ¬ (k = 120 ∨ k = 121 ∨ k = 124) → zgA z' k o i = zgA z k o i := fun k o i a => fc.2.1 k o i (by omega)
  refine ⟨⟨zNC_dk fc p1, n, p3, p4, ⟨fun c n hc1 hc2 hn => ?_, fun c n hc1 hc2 hn => ?_, p7⟩, fun c d hc1 hc2 hd1 => ?_, fun c hc1 => ?_, ?_⟩, ⟨hR.1, fun c hc1 => ?_⟩, hW⟩
  · rw [gA 106 c n (by omega), gA 107 c n (by omega), gA 108 c n (by omega)]; exact p5 c n hc1 hc2 hn
  · rw [fm.2 155 c n (by omega) (by omega), fm.2 156 c n (by omega) (by omega), fm.2 157 c n (by omega) (by omega)]; exact p6 c n hc1 hc2 hn
  · by_cases q : 6 * c + d = e
    · rw [q]
      refine hd ⟨?_, ?_, ?_⟩
      · have := hc.1; omega
      · rw [← q, show (6 * c + d) / 6 = c from by omega]; exact hc1
      · rw [← q, show (6 * c + d) / 6 = c from by omega]; exact hc2
    · refine zRd_cg ⟨fun k j _ hk => fc.1 k j _ (by omega) (by omega), fun k i hk => fc.2.1 k _ i (by omega)⟩ ⟨fun k j _ hk => fm.1 k j _ (by omega) (by omega), fun k i hk => fm.2 k _ i (by omega) (by omega)⟩ (p8 c d hc1 hc2 hd1)
  · obtain ⟨a2, a3, a4, a6, a7⟩ := p9 c hc1
    rw [gA 113 c 2 (by omega), gA 113 c 3 (by omega), gA 113 c 4 (by omega), gA 113 c 6 (by omega), gA 113 c 7 (by omega), fm.1 12 4 c (by omega) (by omega), fm.1 12 5 c (by omega) (by omega), fm.1 12 6 c (by omega) (by omega), fm.1 12 8 c (by omega) (by omega), fm.1 12 9 c (by omega) (by omega)]
    exact ⟨a2, a3, a4, a6, a7⟩
  · rw [fc.1 11 15 0 (by omega) (by omega)]; exact p10
  · rw [gA 113 c 2 (by omega)]; exact hR.2 c hc1
