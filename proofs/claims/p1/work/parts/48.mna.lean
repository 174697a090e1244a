/-! arrays of arrays that are made -/
theorem zD_push {D : va_G} {cl : List vw_C} {A : Nat → Prop} {W Y : va_W} {H : Heap} (hP : va_P D cl W H) (hD : va_D A W) (hY : ∀ (k : Nat) (x : Nat × va_E), Y[k]? = some x → x.1 = H.size + k) (hA : ∀ q : Nat, H.size ≤ q → A q) : va_D A (W ++ Y) := by
  have split : ∀ (k : Nat) (x : Nat × va_E), (W ++ Y)[k]? = some x → W[k]? = some x ∨ (W.length ≤ k ∧ Y[k - W.length]? = some x) := by
    intro k x h
    rcases Nat.lt_or_ge k W.length with w | w
    · rw [List.getElem?_append_left w] at h; exact Or.inl h
    · rw [List.getElem?_append_right w] at h; exact Or.inr ⟨w, h⟩
  refine ⟨fun i j x y hi hj hxy => ?_, fun k x h => ?_⟩
  · rcases split i x hi with hi | ⟨wi, hi⟩ <;> rcases split j y hj with hj | ⟨wj, hj⟩
    · exact hD.1 i j x y hi hj hxy
    · have h1 := (hP i x hi).lt
      have h2 := hY _ y hj
      omega
    · have h1 := (hP j y hj).lt
      have h2 := hY _ x hi
      omega
    · have h1 := hY _ x hi
      have h2 := hY _ y hj
      omega
  · rcases split k x h with h | ⟨w, h⟩
    · exact hD.2 k x h
    · refine hA _ ?_
      have := hY _ x h
      omega
theorem zouter (c : ClassId) (N h0 : Nat) : ∀ i : Nat, Jvm.Free.Multi.outerC c N h0 i = arrV c N (fun j => va_rf (if j < i then some (h0 + 1 + j) else none))
  | 0 => by
    show ({ cls := c, slots := Array.replicate N .null, vm := .none } : Cell) = _
    rw [arrV_new]
    exact congrArg (arrV c N) (funext fun j => by simp [va_rf])
  | i + 1 => by
    show (Jvm.Free.Multi.outerC c N h0 i).setSlot i (.ref (h0 + 1 + i)) = _
    rw [zouter c N h0 i, arrV_store]
    refine congrArg (arrV c N) (funext fun j => ?_)
    by_cases e : j = i
    · subst e; simp [updV, va_rf]
    · by_cases h : j < i
      · simp [updV, e, h, Nat.lt_succ_of_lt h]
      · simp [updV, e, h, show ¬ j < i + 1 by omega]
section ZMNA
variable {p : Program} {l : Launch} {e : Env} {R : Room} {s : State} {m : MethodId} {args : Array Value} {below : List Frame} {meth : Method} {c : Code} {H : Heap} {locs : List Loc} {cells slots : Nat} {Q : State → Prop}
variable {cc : ByteArray} {nL pc : Nat} {ls : Array Slot} {rest : List Value} {own : String} {D : va_G} {cy : Nat → ClassId} {B : Nat → Nat → Nat} {ids : List (Nat × Nat)} {A : Nat → Prop} {z : St} {cs : va_W}
theorem zc_mna {ty : FieldType} {C2 : String} {index t0 t1 N' K' : Nat} {n k : Int32} {z1 : vp_A} (hC2 : C2 = "[" ++ (FieldType.array ty).toString) (ht : (zty cy)[t0]? = some (cy t0, .array ty)) (ht1 : (zty cy)[t1]? = some (cy t1, ty)) (hcl : Cond.classLink own index C2 ∈ zGW) (hover : zA2 ty s) (harr : Cond.arrayClass ty ∈ zGW)
    (hfo : ∀ (U : State) (cA : ClassId), va_RA U cA (.array ty) = (U.vm.findClass ("[" ++ (FieldType.array ty).toString) = some cA)) (hfi : ∀ (U : State) (cA : ClassId), va_RA U cA ty = (U.vm.findClass (FieldType.array ty).toString = some cA))
    (F : zFk p m c cc nL s args own D cy A) (hr : zRC D cy B ids A s.heap z cs H locs) (hn : ¬ n < 0) (hk : ¬ k < 0) (hN : n.toNatClampNeg = N') (hM : k.toNatClampNeg = K')
    (hb1 : N' * 4 ≤ 536870912) (hb2 : K' * componentBytes ty ≤ 536870912) (hb3 : K' ≤ 536870912) (hdf : fits ty (defaultValue ty) = true) (hdd : (defaultValue ty).isDefault = true) (hcells : cells + (1 + N') ≤ R.cells) (hslots : slots + (N' + N' * K') ≤ R.slots) (hz : ∀ c : ClassId, Jvm.Free.Multi.innerC c K' (defaultValue ty) = vp_cell c z1) (hdg : decode cc pc = .ok (.multianewarray index 2, 4))
    (kk : ∀ (q : Nat) (H1 : Heap), zRC D cy B ids A s.heap z (cs ++ ((q, .inl (cy t0, N', .inr (.inr (.inr (.inr (fun i => if i < N' then some (q + 1 + i) else none)))))) :: (List.range N').map (fun j => (q + 1 + j, .inl (cy t1, z1))))) H1 locs → W p l e R s m args below meth c H1 locs (cells + 1 + N') (slots + N' + N' * K') Q (F0 m (pc + 4) ls (.ref q :: rest))) : W p l e R s m args below meth c H locs cells slots Q (F0 m pc ls (.int k :: .int n :: rest)) := by
  obtain ⟨hx, hb, hml, hown, hG, hK, hN2, hA⟩ := F
  obtain ⟨hP, hD, hS, hWf⟩ := hr
  subst hN
  subst hM
  subst hC2
  intro T hT Xs
  obtain ⟨vm₁, cA, comp, -, fA, fC, -, -, X', step⟩ := Xs.multianewarray2F hx hown (hG _ hcl) (show (Cond.arrayOver (.array ty)).before args s = true from hover) (hG _ harr) (g := F0 m pc ls (.int k :: .int n :: rest)) rfl (by rw [hb]; exact hdg) rfl hn hk hb1 hb2 hb3 hdf hdd hcells hslots
  have eo : cA = cy t0 := Option.some.inj (fA.symm.trans (by have := (hK.2 t0 _ ht).2; rw [hfo] at this; exact this))
  have ei : comp = cy t1 := Option.some.inj (fC.symm.trans (by have := (hK.2 t1 _ ht1).2; rw [hfi] at this; exact this))
  subst eo
  subst ei
  generalize hF : Jvm.Free.Multi.fill (T.setVm vm₁) (cy t0) (cy t1) n.toNatClampNeg k.toNatClampNeg (defaultValue ty) n.toNatClampNeg = F at X' step
  have hTh : (T.setVm vm₁).heap = H := hT
  obtain ⟨f1, f2, -, -⟩ := Jvm.Free.Multi.fill_facts (T.setVm vm₁) (cy t0) (cy t1) n.toNatClampNeg k.toNatClampNeg (defaultValue ty) n.toNatClampNeg
  rw [hF, hTh] at f1 f2
  have hold : ∀ x : Nat, x < H.size → F.heap[x]? = H[x]? := fun x hx => by
    have := Jvm.Free.Multi.fill_old (T.setVm vm₁) (cy t0) (cy t1) n.toNatClampNeg k.toNatClampNeg (defaultValue ty) (a := x) (by rw [hTh]; exact hx) n.toNatClampNeg
    rw [hF, hTh] at this
    exact this
  have hrow : ∀ j : Nat, j < n.toNatClampNeg → F.heap[H.size + 1 + j]? = some (vp_cell (cy t1) z1) := fun j hj => by
    have := Jvm.Free.Multi.fill_inner (T.setVm vm₁) (cy t0) (cy t1) n.toNatClampNeg k.toNatClampNeg (defaultValue ty) n.toNatClampNeg j hj
    rw [hF, hTh, hz] at this
    exact this
  have hout : Jvm.Free.Multi.outerC (cy t0) n.toNatClampNeg H.size n.toNatClampNeg = vp_cell (cy t0) (n.toNatClampNeg, .inr (.inr (.inr (.inr (fun i => if i < n.toNatClampNeg then some (H.size + 1 + i) else none))))) := by
    rw [vp_cell_q]
    exact zouter (cy t0) n.toNatClampNeg H.size n.toNatClampNeg
  rw [hout] at f2
  have hYk : ∀ (k9 : Nat) (x : Nat × va_E), ((H.size, .inl (cy t0, n.toNatClampNeg, .inr (.inr (.inr (.inr (fun i => if i < n.toNatClampNeg then some (H.size + 1 + i) else none)))))) :: (List.range n.toNatClampNeg).map (fun j => ((H.size + 1 + j, .inl (cy t1, z1)) : Nat × va_E)))[k9]? = some x →
      (k9 = 0 ∧ x = (H.size, .inl (cy t0, n.toNatClampNeg, .inr (.inr (.inr (.inr (fun i => if i < n.toNatClampNeg then some (H.size + 1 + i) else none))))))) ∨ ∃ j, k9 = j + 1 ∧ j < n.toNatClampNeg ∧ x = (H.size + 1 + j, .inl (cy t1, z1)) := fun k9 x h => by
    cases k9 with
    | zero => exact Or.inl ⟨rfl, (Option.some.inj h).symm⟩
    | succ j =>
      right
      rw [List.getElem?_cons_succ, List.getElem?_map] at h
      have hl : j < n.toNatClampNeg := by
        refine Nat.not_le.mp fun hge => ?_
        rw [List.getElem?_eq_none (by rw [List.length_range]; exact hge)] at h
        cases h
      rw [List.getElem?_range hl] at h
      exact ⟨j, rfl, hl, (Option.some.inj h).symm⟩
  have hPn : va_P D vwCl ((zw cy B ids z ++ cs) ++ ((H.size, .inl (cy t0, n.toNatClampNeg, .inr (.inr (.inr (.inr (fun i => if i < n.toNatClampNeg then some (H.size + 1 + i) else none)))))) :: (List.range n.toNatClampNeg).map (fun j => ((H.size + 1 + j, .inl (cy t1, z1)) : Nat × va_E)))) F.heap :=
    (hP.kept (fun k9 x hx => hold x.1 ((hP k9 x hx).lt))).app (fun k9 x hx => by
      rcases hYk k9 x hx with ⟨-, rfl⟩ | ⟨j, -, hj, rfl⟩
      · exact f2
      · exact hrow j hj)
  have hDn := zD_push hP hD (Y := ((H.size, .inl (cy t0, n.toNatClampNeg, .inr (.inr (.inr (.inr (fun i => if i < n.toNatClampNeg then some (H.size + 1 + i) else none)))))) :: (List.range n.toNatClampNeg).map (fun j => ((H.size + 1 + j, .inl (cy t1, z1)) : Nat × va_E)))) (fun k9 x hx => by
      rcases hYk k9 x hx with ⟨rfl, rfl⟩ | ⟨j, rfl, -, rfl⟩
      · rfl
      · show H.size + 1 + j = H.size + (j + 1); omega) (fun q hq => hA q (Nat.le_trans hS.1 hq))
  rw [List.append_assoc] at hPn hDn
  obtain ⟨t2, a1, b1⟩ := kk H.size F.heap ⟨hPn, hDn, ⟨Nat.le_trans hS.1 (by omega), fun x h1 h2 => (hold x (Nat.lt_of_lt_of_le h1 hS.1)).trans (hS.2.1 x h1 h2), hS.2.2⟩, hWf⟩ F rfl X'
  exact ⟨t2, step t2 (by rw [hTh] at *; first | exact a1 | simpa [hT] using a1), b1⟩
end ZMNA
