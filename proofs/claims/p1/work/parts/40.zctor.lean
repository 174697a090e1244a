/-! making: the state's world, and behind it the cells that are being made -/
def zRC (D : va_G) (cy : Nat → ClassId) (B : Nat → Nat → Nat) (ids : List (Nat × Nat)) (A : Nat → Prop) (H0 : Heap) (z : St) (cs : va_W) (H : Heap) (locs : List Loc) : Prop :=
  va_P D vwCl (zw cy B ids z ++ cs) H ∧ va_D A (zw cy B ids z ++ cs) ∧ va_S A H0 H locs ∧ zWf ids z
theorem zw_len {cy : Nat → ClassId} {B : Nat → Nat → Nat} {ids : List (Nat × Nat)} {z : St} : (zw cy B ids z).length = ids.length := by simp [zw]
theorem zcat {X cs : va_W} {n i : Nat} {e : Nat × va_E} (hn : X.length = n) (h : cs[i]? = some e) : (X ++ cs)[n + i]? = some e := by
  rw [List.getElem?_append_right (by omega), hn, Nat.add_sub_cancel_left]
  exact h
theorem zcat_set {X cs : va_W} {n i : Nat} {e : Nat × va_E} (hn : X.length = n) : (X ++ cs).set (n + i) e = X ++ cs.set i e := by
  rw [List.set_append_right _ _ (by omega), hn, Nat.add_sub_cancel_left]
theorem zty_same {D : va_G} {cl : List vw_C} {tys : List (ClassId × FieldType)} {s : State} {cA cB : ClassId} {ty : FieldType} (h : va_RA s cA ty) (h2 : va_RA s cB ty) : cA = cB := by
  cases ty with
  | object C =>
    obtain ⟨kA, comp, -, -, -, h4⟩ := h
    obtain ⟨kB, comp2, -, -, -, h5⟩ := h2
    exact Option.some.inj (h4.symm.trans h5)
  | _ => exact Option.some.inj (Eq.trans (Eq.symm h) h2)
section ZK
variable {p : Program} {l : Launch} {e : Env} {R : Room} {s : State} {m : MethodId} {args : Array Value} {below : List Frame} {meth : Method} {c : Code} {H : Heap} {locs : List Loc} {cells slots : Nat} {Q : State → Prop}
variable {cc : ByteArray} {nL pc : Nat} {ls : Array Slot} {rest : List Value} {own : String} {D : va_G} {cy : Nat → ClassId} {B : Nat → Nat → Nat} {ids : List (Nat × Nat)} {A : Nat → Prop} {z : St} {cs : va_W} {a k j i : Nat} {fs : List Value}
/-- what is fixed in a method that makes -/
def zFk (p : Program) (m : MethodId) (c : Code) (cc : ByteArray) (nL : Nat) (s : State) (args : Array Value) (own : String) (D : va_G) (cy : Nat → ClassId) (A : Nat → Prop) : Prop :=
  p.tables.exec = Jvm.exec ∧ c.code = cc ∧ c.maxLocals = nL ∧ s.vm.findClass own = some m.cls ∧ (∀ w ∈ zGW, w.before args s = true) ∧ va_K D vwCl (zty cy) s ∧ zNW s ∧ (∀ q : Nat, s.heap.size ≤ q → A q)
theorem zc_get {ref Cn : String} {T : u_T} {N index : Nat} {v : Value} (hc : vwCl[k]? = some (Cn, T, N)) (hin : ∀ w ∈ u_ws Cn T N, w ∈ zGW) (hj : j < N) (hl : Cond.fieldLink own index ref (T j).2.1 (T j).2.2.1 ∈ zGW) (hsame : ref = (T j).1)
    (F : zFk p m c cc nL s args own D cy A) (hr : zRC D cy B ids A s.heap z cs H locs) (i : Nat) (he : cs[i]? = some (a, .inr (k, fs))) (hv : fs[j]? = some v) (hdg : decode cc pc = .ok (.getfield index, 3))
    (kk : W p l e R s m args below meth c H locs cells slots Q (F0 m (pc + 3) ls (v :: rest))) : W p l e R s m args below meth c H locs cells slots Q (F0 m pc ls (.ref a :: rest)) := by
  obtain ⟨hx, hb, hml, hown, hG, hK, hN, hA⟩ := F
  subst hsame
  exact va_get hx hb hG hin hown hK hr.1 _ (zcat zw_len he) hc j hj (hG _ hl) (fun _ h => h) hv hdg kk
theorem zc_putF {ref Cn : String} {T : u_T} {N index : Nat} (ty0 : Nat → FieldType) (hty : ∀ k, k < N → parseFieldDescriptor (T k).2.2.1 = some (ty0 k)) (hnm : ∀ a, a < N → ∀ b, b < N → a ≠ b → (T a).2.1 ≠ (T b).2.1) (hc : vwCl[k]? = some (Cn, T, N)) (hin : ∀ w ∈ u_ws Cn T N, w ∈ zGW) (hj : j < N) (hl : Cond.fieldLink own index ref (T j).2.1 (T j).2.2.1 ∈ zGW) (hsame : ref = (T j).1) (hfin : (T j).2.2.2 = true) (hdecl : (T j).1 = own)
    (F : zFk p m c cc nL s args own D cy A) (hinit : meth.name = "<init>") (hr : zRC D cy B ids A s.heap z cs H locs) (i : Nat) (he : cs[i]? = some (a, .inr (k, fs))) (hdg : decode cc pc = .ok (.putfield index, 3)) {v : Value} (hn : narrow (ty0 j) v = v) (hfit : fits (ty0 j) v = true) (hlen : j < fs.length)
    (kk : ∀ (H1 : Heap) (locs1 : List Loc), zRC D cy B ids A s.heap z (cs.set i (a, .inr (k, fs.set j v))) H1 locs1 → W p l e R s m args below meth c H1 locs1 cells slots Q (F0 m (pc + 3) ls rest)) : W p l e R s m args below meth c H locs cells slots Q (F0 m pc ls (v :: .ref a :: rest)) := by
  obtain ⟨hx, hb, hml, hown, hG, hK, hN, hA⟩ := F
  subst hsame
  refine va_putF hx hb hG hin ty0 hty hnm hown hK hr.1 hr.2.1 hr.2.2.1 _ (zcat zw_len he) hc j hj (hG _ hl) (fun _ h => h) hfin hinit hdecl (hty j hj) hn hfit hlen hdg (fun H1 locs1 hP hD hS => kk H1 locs1 ⟨?_, ?_, hS, hr.2.2.2⟩)
  · rw [zcat_set zw_len] at hP; exact hP
  · rw [zcat_set zw_len] at hD; exact hD
theorem zc_put {ref Cn : String} {T : u_T} {N index : Nat} (ty0 : Nat → FieldType) (hty : ∀ k, k < N → parseFieldDescriptor (T k).2.2.1 = some (ty0 k)) (hnm : ∀ a, a < N → ∀ b, b < N → a ≠ b → (T a).2.1 ≠ (T b).2.1) (hc : vwCl[k]? = some (Cn, T, N)) (hin : ∀ w ∈ u_ws Cn T N, w ∈ zGW) (hj : j < N) (hl : Cond.fieldLink own index ref (T j).2.1 (T j).2.2.1 ∈ zGW) (hsame : ref = (T j).1) (hfin : (T j).2.2.2 = false)
    (F : zFk p m c cc nL s args own D cy A) (hr : zRC D cy B ids A s.heap z cs H locs) (i : Nat) (he : cs[i]? = some (a, .inr (k, fs))) (hdg : decode cc pc = .ok (.putfield index, 3)) {v : Value} (hn : narrow (ty0 j) v = v) (hfit : fits (ty0 j) v = true) (hlen : j < fs.length)
    (kk : ∀ (H1 : Heap) (locs1 : List Loc), zRC D cy B ids A s.heap z (cs.set i (a, .inr (k, fs.set j v))) H1 locs1 → W p l e R s m args below meth c H1 locs1 cells slots Q (F0 m (pc + 3) ls rest)) : W p l e R s m args below meth c H locs cells slots Q (F0 m pc ls (v :: .ref a :: rest)) := by
  obtain ⟨hx, hb, hml, hown, hG, hK, hN, hA⟩ := F
  subst hsame
  refine va_put hx hb hG hin ty0 hty hnm hown hK hr.1 hr.2.1 hr.2.2.1 _ (zcat zw_len he) hc j hj (hG _ hl) (fun _ h => h) hfin (hty j hj) hn hfit hlen hdg (fun H1 locs1 hP hD hS => kk H1 locs1 ⟨?_, ?_, hS, hr.2.2.2⟩)
  · rw [zcat_set zw_len] at hP; exact hP
  · rw [zcat_set zw_len] at hD; exact hD
theorem zc_newa {atype : ArrayType} {ty : FieldType} {n : Int32} {N' t0 : Nat} {a0 : vp_A} (hty : newarray.typeOf atype = ty) (ht : (zty cy)[t0]? = some (cy t0, ty)) (harr : Cond.arrayClass ty ∈ zGW) (F : zFk p m c cc nL s args own D cy A) (hr : zRC D cy B ids A s.heap z cs H locs)
    (ha : ∀ cA : ClassId, vp_cell cA a0 = arrV cA N' (fun _ => defaultValue ty)) (hn : ¬ n < 0) (hN : n.toNatClampNeg = N') (hbytes : N' * componentBytes ty ≤ 536870912) (hcells : cells + 1 ≤ R.cells) (hslots : slots + N' ≤ R.slots) (hdg : decode cc pc = .ok (.newarray atype, 2))
    (kk : ∀ (q : Nat) (H1 : Heap), zRC D cy B ids A s.heap z (cs ++ [(q, .inl (cy t0, a0))]) H1 locs → W p l e R s m args below meth c H1 locs (cells + 1) (slots + N') Q (F0 m (pc + 2) ls (.ref q :: rest))) : W p l e R s m args below meth c H locs cells slots Q (F0 m pc ls (.int n :: rest)) := by
  obtain ⟨hx, hb, hml, hown, hG, hK, hN2, hA⟩ := F
  subst hty
  refine va_newa hx hb (hG _ harr) rfl hK hr.1 hr.2.1 hr.2.2.1 hA ha hn hN hbytes hcells hslots hdg (fun q cA H1 hK1 hP hD hS => ?_)
  have e1 : cA = cy t0 := zty_same (D := D) (cl := vwCl) (tys := zty cy) (hK1.2 (zty cy).length (cA, newarray.typeOf atype) (by simp)).2 (hK.2 t0 _ ht).2
  subst e1
  rw [List.append_assoc] at hP hD
  exact kk q H1 ⟨hP, hD, hS, hr.2.2.2⟩
theorem zc_newq {C : String} {index t0 : Nat} {n : Int32} {N' : Nat} (ht : (zty cy)[t0]? = some (cy t0, .object C)) (hcl : Cond.classLink own index C ∈ zGW) (hover : va_AO C s) (F : zFk p m c cc nL s args own D cy A) (hr : zRC D cy B ids A s.heap z cs H locs)
    (hn : ¬ n < 0) (hN : n.toNatClampNeg = N') (hbytes : N' * 4 ≤ 536870912) (hcells : cells + 1 ≤ R.cells) (hslots : slots + N' ≤ R.slots) (hdg : decode cc pc = .ok (.anewarray index, 3))
    (kk : ∀ (q : Nat) (H1 : Heap), zRC D cy B ids A s.heap z (cs ++ [(q, .inl (cy t0, N', .inr (.inr (.inr (.inr (fun _ => none))))))]) H1 locs → W p l e R s m args below meth c H1 locs (cells + 1) (slots + N') Q (F0 m (pc + 3) ls (.ref q :: rest))) : W p l e R s m args below meth c H locs cells slots Q (F0 m pc ls (.int n :: rest)) := by
  obtain ⟨hx, hb, hml, hown, hG, hK, hN2, hA⟩ := F
  refine va_newq hx hb hown (hG _ hcl) hover hK hr.1 hr.2.1 hr.2.2.1 hA hn hN hbytes hcells hslots hdg (fun q cA H1 hK1 hP hD hS => ?_)
  have e1 : cA = cy t0 := zty_same (D := D) (cl := vwCl) (tys := zty cy) (hK1.2 (zty cy).length (cA, .object C) (by simp)).2 (hK.2 t0 _ ht).2
  subst e1
  rw [List.append_assoc] at hP hD
  exact kk q H1 ⟨hP, hD, hS, hr.2.2.2⟩
theorem zc_new {Cn : String} {T : u_T} {N index : Nat} (ty0 : Nat → FieldType) (hty : ∀ k, k < N → parseFieldDescriptor (T k).2.2.1 = some (ty0 k)) (hc : vwCl[k]? = some (Cn, T, N)) (hin : ∀ w ∈ u_ws Cn T N, w ∈ zGW) (hcl : Cond.classLink own index Cn ∈ zGW) (hins : Cond.instantiable Cn N ∈ zGW) (hini : Cond.initialized Cn ∈ zGW) (F : zFk p m c cc nL s args own D cy A) (hr : zRC D cy B ids A s.heap z cs H locs)
    (hfs : ∀ j, j < N → defaultValue (ty0 j) = vp_V fs j) (hcells : cells + 1 ≤ R.cells) (hslots : slots + N ≤ R.slots) (hdg : decode cc pc = .ok (.new index, 3))
    (kk : ∀ (q : Nat) (H1 : Heap), zRC D cy B ids A s.heap z (cs ++ [(q, .inr (k, fs))]) H1 locs → W p l e R s m args below meth c H1 locs (cells + 1) (slots + N) Q (F0 m (pc + 3) ls (.ref q :: rest))) : W p l e R s m args below meth c H locs cells slots Q (F0 m pc ls rest) := by
  obtain ⟨hx, hb, hml, hown, hG, hK, hN2, hA⟩ := F
  refine va_new hx hb hG hin ty0 hty hown (hG _ hcl) (hG _ hins) (hG _ hini) hK hr.1 hr.2.1 hr.2.2.1 hA hc hfs hcells hslots hdg (fun q H1 hP hD hS => ?_)
  rw [List.append_assoc] at hP hD
  exact kk q H1 ⟨hP, hD, hS, hr.2.2.2⟩
end ZK
