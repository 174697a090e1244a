/-! put by a nest link; the chain of spare parcels -/
section ZPN
variable {p : Program} {l : Launch} {e : Env} {R : Room} {s : State} {m : MethodId} {args : Array Value} {below : List Frame} {meth : Method} {c : Code} {H : Heap} {locs : List Loc} {cells slots : Nat} {Q : State → Prop}
variable {cc : ByteArray} {nL pc : Nat} {ls : Array Slot} {rest : List Value} {own : String} {D : va_G} {cy : Nat → ClassId} {B : Nat → Nat → Nat} {ids : List (Nat × Nat)} {A : Nat → Prop} {z : St} {cs : va_W} {a k j : Nat} {fs : List Value}
theorem zc_putN {ref Cn host : String} {T : u_T} {N index : Nat} (ty0 : Nat → FieldType) (hty : ∀ k, k < N → parseFieldDescriptor (T k).2.2.1 = some (ty0 k)) (hnm : ∀ a, a < N → ∀ b, b < N → a ≠ b → (T a).2.1 ≠ (T b).2.1) (hc : vwCl[k]? = some (Cn, T, N)) (hin : ∀ w ∈ u_ws Cn T N, w ∈ zGW) (hj : j < N) (hl : Cond.fieldLinkNest own index ref (T j).2.1 (T j).2.2.1 host ∈ zNL) (hsame : ref = (T j).1) (hfin : (T j).2.2.2 = false)
    (F : zFk p m c cc nL s args own D cy A) (hr : zRC D cy B ids A s.heap z cs H locs) (i : Nat) (he : cs[i]? = some (a, .inr (k, fs))) (hdg : decode cc pc = .ok (.putfield index, 3)) {v : Value} (hn : narrow (ty0 j) v = v) (hfit : fits (ty0 j) v = true) (hlen : j < fs.length)
    (kk : ∀ (H1 : Heap) (locs1 : List Loc), zRC D cy B ids A s.heap z (cs.set i (a, .inr (k, fs.set j v))) H1 locs1 → W p l e R s m args below meth c H1 locs1 cells slots Q (F0 m (pc + 3) ls rest)) : W p l e R s m args below meth c H locs cells slots Q (F0 m pc ls (v :: .ref a :: rest)) := by
  obtain ⟨hx, hb, hml, hown, hG, hK, hN, hA⟩ := F
  subst hsame
  refine va_putN hx hb hG hin ty0 hty hnm hown hK hr.1 hr.2.1 hr.2.2.1 _ (zcat zw_len he) hc j hj (hN _ hl) (fun _ h => h) hfin (hty j hj) hn hfit hlen hdg (fun H1 locs1 hP hD hS => kk H1 locs1 ⟨?_, ?_, hS, hr.2.2.2⟩)
  · rw [zcat_set zw_len] at hP; exact hP
  · rw [zcat_set zw_len] at hD; exact hD
end ZPN
/-- the last object of a list of cells, its arrays behind it -/
theorem zc_lastObj {X Y : va_W} {x : Nat × va_E} : (X ++ x :: Y)[X.length]? = some x := by
  rw [List.getElem?_append_right (Nat.le_refl _), Nat.sub_self]; rfl
theorem zc_setLast {X Y : va_W} {x y : Nat × va_E} : (X ++ x :: Y).set X.length y = X ++ y :: Y := by
  rw [List.set_append_right _ _ (Nat.le_refl _), Nat.sub_self]; rfl
