/-! the class: how many wait for a station; one of them is taken out -/
theorem zc_count {z : St} {q s N : Nat} {W : List Dg} (h : zWq z q W) (hw : ∀ D, D ∈ W → wTo D < 8 ∧ D.1 11 = Int32.ofNat (wTo D)) (hs : s < 8) (hN : 17 < N) : fX8_countWaitingFor N q (Int32.ofNat s) z = some (Int32.ofNat (W.filter (fun x => wTo x == s)).length, z) := by
  obtain ⟨h17, h12, pw, h3, h4, h5⟩ := h
  have key := zlp0 (G := fun n' i => fX8_countWaitingFor_4 N n' q (Int32.ofNat s) (Int32.ofNat ((W.take i).filter (fun x => wTo x == s)).length) (Int32.ofNat i) z) (r := some (Int32.ofNat (W.filter (fun x => wTo x == s)).length, z)) (k := W.length) (n := N) (by omega) ?_ ?_
  · exact key
  · intro n' i hi
    show fX8_countWaitingFor_4b N (fX8_countWaitingFor_4 N n') q (Int32.ofNat s) _ (Int32.ofNat i) z = _
    have hD : W[i]? = some W[i] := List.getElem?_eq_getElem hi
    have hp := h5 i _ hD
    have e11 : zgI z 7 11 (pw i) = Int32.ofNat (wTo W[i]) := (hp.1 11 (by omega) (by omega)).trans (hw _ (List.getElem_mem hi)).2
    have w8 := (hw _ (List.getElem_mem hi)).1
    have et : W.take (i + 1) = W.take i ++ [W[i]] := by rw [List.take_add_one, hD]; rfl
    unfold fX8_countWaitingFor_4b fX8_countWaitingFor_28
    rw [h12, if_neg (by rw [zo_le (by omega) (by omega)]; omega), zkk (by omega) (by omega), zl_e, zoC (by omega), (h3 i (by omega)).1, zd_e, e11]
    show _ = fX8_countWaitingFor_4 N n' q (Int32.ofNat s) (Int32.ofNat ((W.take (i + 1)).filter (fun x => wTo x == s)).length) (Int32.ofNat (i + 1)) z
    rw [et, List.filter_append, List.length_append]
    by_cases c : wTo W[i] = s
    · rw [c, if_neg (fun y => y rfl), zl_e, zl_e, zo_i1, zo_i1, List.filter_cons, if_pos (by simpa using c)]; rfl
    · rw [if_pos (by rw [zo_eq (by omega) (by omega)]; exact c), zl_e, zo_i1, List.filter_cons, if_neg (by simpa using c)]; rfl
  · intro n'
    show fX8_countWaitingFor_4b N (fX8_countWaitingFor_4 N n') q (Int32.ofNat s) _ (Int32.ofNat W.length) z = _
    unfold fX8_countWaitingFor_4b
    rw [h12, if_pos (Int32.le_refl _), List.take_length]
theorem zc_take {z : St} {T : Tp} {E : Ev} {g : Sg} {X : List Nat} {q j N : Nat} (h : zNC z T E g X) (hq : tv T q) (hj : j < (gW g q).length) (hN : 17 < N) : ∃ z' x, fX8_takeWaiting N q (Int32.ofNat j) z = some (some x, z') ∧ 579 + 17 * q ≤ x ∧ x < 596 + 17 * q ∧ zPC 12 z' x (gW g q)[j] ∧ zNC z' T E (sW g (zupd (gW g) q ((gW g q).eraseIdx j))) X ∧ zFr mX8_takeWaiting z z' ∧ (∀ j u, zgI z' 7 j u = zgI z 7 j u) := by
  obtain ⟨h1, h2, h3, h4, ⟨t1, t2, t3⟩, h6, h7, h8, h9, hX⟩ := h
  obtain ⟨z', x, r1, r2, r3, r4, r5, r6, r7, r8⟩ := zc_takeWaiting (N := N) (h6 q hq).2 hj hN
  have f : zFr mX8_takeWaiting z z' := wX8_takeWaiting (Nat.and_self _) (zFr_rf _ _) _ _ r1
  have i7 : ∀ j u, zgI z' 7 j u = zgI z 7 j u := fun j u => r6 7 j u (by simp)
  have a125 : ∀ u i, zgA z' 125 u i = zgA z 125 u i := fun u i => r8 125 u i
  refine ⟨z', x, r1, r2, r3, zPC_cg (fun j _ => i7 j x) (a125 x) r4, ⟨zTC_fr f (by decide) h1, h2, zEc_fr f (by decide) h3, h4, ⟨zTr_fr f (by decide) t1, zCt_fr f (by decide) t2, zQq_fr f (by decide) t3⟩, fun p hp => ?_, zAc_fr f (by decide) h7, zHc_fr f (by decide) h8, ⟨(i7 3 1).trans h9.1, fun i => (a125 1 i).trans (h9.2 i)⟩, hX⟩, f, i7⟩
  by_cases e : p = q
  · subst e
    have : gW (sW g (zupd (gW g) p ((gW g p).eraseIdx j))) p = (gW g p).eraseIdx j := if_pos rfl
    rw [this]
    refine ⟨?_, r5⟩
    have := (h6 p hp).1
    rw [List.length_eraseIdx]
    split <;> omega
  · have : gW (sW g (zupd (gW g) q ((gW g q).eraseIdx j))) p = gW g p := if_neg e
    rw [this]
    exact ⟨(h6 p hp).1, zWq_cg (r6 8 12 p (fun y => e y.2.2)) (fun i => r7 130 p i (fun y => e y.2)) (fun u _ _ => ⟨fun j => i7 j u, a125 u⟩) (h6 p hp).2⟩
