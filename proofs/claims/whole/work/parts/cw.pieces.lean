/-! pieces are put together alike -/
theorem zPd_same {T : Tp} {R : Rg} {D D' : Dg} (hc : zTc T) (h : zPd T R D) (h' : zPd T R D') (h0 : D.1 0 = D'.1 0) (h3 : D.1 3 = D'.1 3) : D.1 1 = D'.1 1 ∧ D.1 2 = D'.1 2 ∧ D.1 7 = D'.1 7 ∧ D.2 = D'.2 := by
  obtain ⟨-, ⟨q, n, q1, q2, q3, q4, q5⟩, -⟩ := h
  obtain ⟨-, ⟨q', n', p1, p2, p3, p4, p5⟩, -⟩ := h'
  have b1 := tv_192 hc q1
  have b2 := tv_192 hc p1
  have e1 : q = q' := zad_inj (by omega) (by omega) (q2.symm.trans (h0.trans p2))
  have e2 : n = n' := (zo_eq q4 p4).mp (q3.symm.trans (h3.trans p3))
  subst e1 e2
  rw [q5] at p5
  have := Option.some.inj p5
  exact ⟨congrArg (fun x => x.1.2.1) this, congrArg (fun x => x.1.2.2.1) this, congrArg (fun x => x.1.2.2.2) this, congrArg (fun x => x.2) this⟩
/-- what is so of pieces that wait -/
def zPo1 (T : Tp) (E : Ev) (R : Rg) (e : Pe) : Prop := pet e ≤ eN E ∧ (∃ D0, zPd T R D0 ∧ peD e = dFull D0) ∧ (peU e 0 = true → 64 ≤ dw (peD e)) ∧ ∀ v, peU e v = true → 8 * v < dw (peD e)
def zPp (z w : St) (T : Tp) (E : Ev) (R : Rg) (b : Nat) (L : List Pe) (ord : Nat) : Prop := zPcS z b L ord ∧ zPmS w b L ∧ (∀ e, e ∈ L → zPo1 T E R e) ∧ L.Pairwise (fun x y => dSb (peD x) (peD y) = false)
theorem dSb_sy {D D' : Dg} (h : dSb D D' = false) : dSb D' D = false := by
  rw [Bool.eq_false_iff] at h ⊢
  intro y
  obtain ⟨a, b, c, d⟩ := dSb_iff.mp y
  exact h (dSb_iff.mpr ⟨a.symm, b.symm, c.symm, d.symm⟩)
theorem dSb_tr {A B C : Dg} (h1 : dSb A C = true) (h2 : dSb B C = true) : dSb A B = true := by
  obtain ⟨a, b, c, d⟩ := dSb_iff.mp h1
  obtain ⟨a', b', c', d'⟩ := dSb_iff.mp h2
  exact dSb_iff.mpr ⟨a.trans a'.symm, b.trans b'.symm, c.trans c'.symm, d.trans d'.symm⟩
theorem dSb_full {D D' : Dg} : dSb (dFull D) D' = dSb D D' := rfl
theorem pw_ne {A B : List Pe} {e x : Pe} (h : (A ++ e :: B).Pairwise (fun x y => dSb (peD x) (peD y) = false)) (hx : x ∈ A ++ B) : dSb (peD x) (peD e) = false := by
  obtain ⟨-, h2, h3⟩ := List.pairwise_append.mp h
  rcases List.mem_append.mp hx with m | m
  · exact h3 x m e List.mem_cons_self
  · exact dSb_sy ((List.pairwise_cons.mp h2).1 x m)
/-- both go on with the pieces e: whole, or not yet -/
theorem zp_put51 {z w : St} {T : Tp} {E : Ev} {R : Rg} {K : Int32 → Int32 → Int32 → Prop} {b x d ord N : Nat} {A B : List Pe} {e : Pe} {D D' : Dg} (hT : zTC z T) (hc : zTc T) (hb : b < tb T) (h : zPp z w T E R b (A ++ e :: B) ord) (hx : x < 515) (hxc : zPC 11 z x D) (hP : zPd T R D) (hpart : dl D < dw D) (hD : zMD w T K d D') (hD' : ∀ j, ¬ j = 10 → D'.1 j = D.1 j) (hs : dSb (peD e) D = true) (hN : 192 < N) :
    ∃ z' w', ((fX11_putTogether_51 N b x (Int32.ofNat (pes e)) z = some (some (515 + 4 * b + pes e), z') ∧ fX19_get_239 N 0 b (Int32.ofNat d) (Int32.ofNat A.length) w = (zc (fX19_handle N 0 b (Int32.ofNat d) w') fun _ z13 => some (0, z13)) ∧ zPp z' w' T E R b (A ++ B) ord ∧ (∀ j, j < 11 → j ≠ 8 → zgI z' 7 j (515 + 4 * b + pes e) = (peD e).1 j) ∧ (∀ i, i < dw D → zgA z' 125 (515 + 4 * b + pes e) i = D.2 i) ∧ 64 ≤ dw D ∧ zgI w' 12 8 b = zgI w 12 8 b + 1 ∧ ∀ c k, zgA z' 113 c k = if c = b ∧ k = 6 then zgA z 113 c k + 1 else zgA z 113 c k) ∨
      (fX11_putTogether_51 N b x (Int32.ofNat (pes e)) z = some (none, z') ∧ fX19_get_239 N 0 b (Int32.ofNat d) (Int32.ofNat A.length) w = some (0, w') ∧ zPp z' w' T E R b (A ++ (e.1, peD e, pet e, pUn D (peU e)) :: B) ord ∧ zgI w' 12 8 b = zgI w 12 8 b ∧ ∀ c k, zgA z' 113 c k = zgA z 113 c k)) ∧
      ((∀ k j o, zgI z' k j o = zgI z k j o) ∧ (∀ k o i, ¬ (k = 125 ∧ o = 515 + 4 * b + pes e) → k ≠ 113 → ¬ (k = 118 ∧ o = b) → zgA z' k o i = zgA z k o i) ∧ (∀ k o i, ¬ (k = 116 ∧ o = b * 4 + pes e) → zgL z' k o i = zgL z k o i)) ∧
      ((∀ k j o, ¬ (k = 12 ∧ j = 11 ∧ o = b) → ¬ (k = 12 ∧ j = 8 ∧ o = b) → ¬ (k = 17 ∧ j < 6 ∧ 4 * b ≤ o ∧ o < 4 * b + 4) → zgI w' k j o = zgI w k j o) ∧ (∀ k o i, ¬ (k = 166 ∧ 4 * b ≤ o ∧ o < 4 * b + 4) → zgA w' k o i = zgA w k o i) ∧ (∀ k o i, zgL w' k o i = zgL w k o i) ∧ (∀ k o j, ¬ (k = 148 ∧ o = b) → zgQ w' k o j = zgQ w k o j) ∧ (∀ k o i, zgR w' k o i = zgR w k o i)) := by
  obtain ⟨hC, hM, hO, hW⟩ := h
  obtain ⟨o1, ⟨D0, o2, o3⟩, o5, o4⟩ := hO e (by simp)
  have hs0 := hs
  rw [o3, dSb_full] at hs0
  obtain ⟨s0, s1, s2, s3⟩ := dSb_iff.mp hs0
  obtain ⟨-, -, r7, rD⟩ := zPd_same hc o2 hP s0 s3
  have he7 : (peD e).1 7 = D.1 7 := by rw [o3]; exact r7
  have hew : dw (peD e) = dw D := by unfold dw; rw [he7]
  have he2 : (peD e).2 = D.2 := by rw [o3]; exact rD
  have h8 := hP.2.2.2.1
  have hB8 : (df D + dl D) % 8 = 0 ∨ df D + dl D = dw D := by
    rcases hP.2.2.2.2.1 with y | y
    · left; omega
    · exact Or.inr y
  obtain ⟨⟨hd, -, -, -, -, -⟩, ⟨m5, m6, m7, -, -, -⟩, -⟩ := hD
  have ef : df D' = df D := by unfold df; rw [hD' 5 (by decide)]
  have el : dl D' = dl D := by unfold dl; rw [hD' 6 (by decide)]
  have ew' : dw D' = dw D := by unfold dw; rw [hD' 7 (by decide)]
  rw [hD' 6 (by decide)] at m5
  rw [hD' 5 (by decide)] at m6
  rw [ef, el, ew'] at m7
  have u0 : pUn D (peU e) 0 = true → 64 ≤ dw D := fun hv => by
    unfold pUn at hv
    rw [Bool.or_eq_true, Bool.and_eq_true] at hv
    rcases hv with hv | ⟨hv, -⟩
    · rw [← hew]; exact o5 hv
    · have h0 := of_decide_eq_true hv
      rcases hP.2.2.2.2.2.1 (by omega) with y | y <;> omega
  obtain ⟨z', c1, c2, c3, c4⟩ := zc_put51 (N := N) hT hb hC hx hxc hP.1 h8 hB8 he7 hew he2 (fun v hv => by rw [← hew]; exact o4 v hv) hN
  obtain ⟨w', m1, f2, f3, f4, f5, f6⟩ := zm_get239 (N := N) hM hd hP.1 h8 hB8 m5 m6 m7 hew hN
  have sub : ∀ y, y ∈ A ++ B → y ∈ A ++ e :: B := fun y hy => by
    rcases List.mem_append.mp hy with q | q
    · exact List.mem_append_left _ q
    · exact List.mem_append_right _ (List.mem_cons_of_mem _ q)
  obtain ⟨w1, w2, w3⟩ := List.pairwise_append.mp hW
  obtain ⟨w4, w5⟩ := List.pairwise_cons.mp w2
  refine ⟨z', w', ?_, ⟨c2, c3, c4⟩, ⟨f2, f3, f4, f5, f6⟩⟩
  rcases c1 with ⟨a1, a2, a3, a4, a5, a6⟩ | ⟨a1, a2, a3, a4⟩
  · rcases m1 with ⟨b1, b2, b3, b4⟩ | ⟨b1, -⟩
    · refine Or.inl ⟨a2, b2, ⟨a3, b3, fun y hy => hO y (sub y hy), ?_⟩, a4, a5, u0 ((zAll_iff hP.1.2.2.2.2.1).mp a1 0 (by have := hP.1.2.2.2.2.2; have := hP.1.2.2.2.1; omega)), b4, a6⟩
      exact List.pairwise_append.mpr ⟨w1, w5, fun x hx y hy => w3 x hx y (List.mem_cons_of_mem _ hy)⟩
    · rw [a1] at b1; cases b1
  · rcases m1 with ⟨b1, -⟩ | ⟨b1, b2, b3, b4⟩
    · rw [a1] at b1; cases b1
    · refine Or.inr ⟨a2, b2, ⟨a3, b3, fun y hy => ?_, ?_⟩, b4, a4⟩
      · rcases List.mem_append.mp hy with q | q
        · exact hO y (List.mem_append_left _ q)
        · rcases List.mem_cons.mp q with q | q
          · rw [q]
            refine ⟨o1, ⟨D0, o2, o3⟩, fun hv => by rw [show dw (peD (e.1, peD e, pet e, pUn D (peU e))) = dw D from hew]; exact u0 hv, fun v hv => ?_⟩
            have hv : pUn D (peU e) v = true := hv
            unfold pUn at hv
            rw [Bool.or_eq_true, Bool.and_eq_true] at hv
            show 8 * v < dw (peD e)
            rcases hv with hv | ⟨-, hv⟩
            · exact o4 v hv
            · have := of_decide_eq_true hv
              have := hP.1.2.2.2.1
              rw [hew]; omega
          · exact hO y (List.mem_append_right _ (List.mem_cons_of_mem _ q))
      · refine List.pairwise_append.mpr ⟨w1, List.pairwise_cons.mpr ⟨fun y hy => w4 y hy, w5⟩, fun x hx y hy => ?_⟩
        rcases List.mem_cons.mp hy with q | q
        · rw [q]; exact w3 x hx e List.mem_cons_self
        · exact w3 x hx y (List.mem_cons_of_mem _ q)
