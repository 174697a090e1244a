/-! constructors that read objects of their arguments: cells that stay -/
def zKR (l : Launch) (y : MethodName) (ws : List Cond) (rm : Room) (D : va_G) (cy : Nat → ClassId) (av : List Value) (ro c0 : va_W) (post : va_W → Prop) : Prop :=
  ∀ sz : Nat, Met l y ws rm (va_Pc av (fun U => U.heap.size = sz ∧ va_P D vwCl ro U.heap ∧ (∀ x ∈ ro, ¬ va_A c0 sz x.1) ∧ va_P D vwCl c0 U.heap ∧ va_K D vwCl (zty cy) U ∧ zNW U ∧ zAO U ∧ va_D (fun _ => True) c0)) (zKQ D post (va_A c0 sz)) rm.cells rm.slots (va_A c0 sz)
theorem zKR_of {l : Launch} {y : MethodName} {cc : ByteArray} {maxL : Nat} {rm : Room} {D : va_G} {cy : Nat → ClassId} {av : List Value} {ro c0 : va_W} {post : va_W → Prop} (hy : plainName y.cls = true) (hi : y.name = "<init>") (hlen : (lg_sl av).length ≤ maxL)
    (body : ∀ (p : Program) (e : Env) (s : State) (m : MethodId) (args : Array Value) (below : List Frame) (meth : Method) (c : Code) (A : Nat → Prop) (ls : Array Slot), zFk p m c cc maxL s args y.cls D cy A → zAO s → meth.name = "<init>" → meth.sig.returnType = none → meth.locks = false → va_P D vwCl ro s.heap → (∀ x ∈ ro, ¬ A x.1) → zRC D cy (fun _ _ => 0) [] A s.heap zz0 c0 s.heap [] → lv_has ls maxL (lv_args 0 av) →
      W p l e rm s m args below meth c s.heap [] 0 0 (MQ below (zKQ D post A) args s rm.cells rm.slots A) (F0 m 0 ls [])) : zKR l y (zws y cc maxL none) rm D cy av ro c0 post := by
  intro sz
  refine Met.ofW (cc := cc) (maxL := maxL) (ret := none) hy rfl ?_
  intro p e s m args below meth c s₁ B' hml hv
  obtain ⟨rfl, hsz, hro, hna, hP, hK, hN, hAO, hD⟩ := hv
  have hts := atoms_spec (ws := zws y cc maxL none) B'.pre
  have hown := findClass_of_methodNamed B'.named
  have hlocks := B'.notSynchronized
  have hnm : meth.name = "<init>" := hi ▸ (name_of_methodNamed B'.named B'.method).1
  subst hsz
  rw [lg_entry_eq]
  exact body p e s m _ below meth c (va_A c0 s.heap.size) _ ⟨B'.exec, B'.bytes, hml, hown, fun w h => hts w (List.mem_cons_of_mem _ h), hK, hN, fun q h => Or.inr h⟩ hAO hnm B'.returns hlocks hro hna ⟨hP, hD.self (sz := s.heap.size), va_S.rf, zWf_0⟩ (lv_entry av hlen)
section ZRO
variable {p : Program} {l : Launch} {e : Env} {R : Room} {s : State} {m : MethodId} {args : Array Value} {below : List Frame} {meth : Method} {c : Code} {H : Heap} {locs : List Loc} {cells slots : Nat} {Q : State → Prop}
variable {cc : ByteArray} {nL pc : Nat} {ls : Array Slot} {rest : List Value} {own : String} {D : va_G} {cy : Nat → ClassId} {B : Nat → Nat → Nat} {ids : List (Nat × Nat)} {A : Nat → Prop} {z : St} {cs ro : va_W} {a k j : Nat} {fs : List Value}
theorem zc_getR {ref Cn : String} {T : u_T} {N index : Nat} {v : Value} (hc : vwCl[k]? = some (Cn, T, N)) (hin : ∀ w ∈ u_ws Cn T N, w ∈ zGW) (hj : j < N) (hl : Cond.fieldLink own index ref (T j).2.1 (T j).2.2.1 ∈ zGW) (hsame : ref = (T j).1)
    (F : zFk p m c cc nL s args own D cy A) (hro : va_P D vwCl ro s.heap) (hna : ∀ x ∈ ro, ¬ A x.1) (hr : zRC D cy B ids A s.heap z cs H locs) (i : Nat) (he : ro[i]? = some (a, .inr (k, fs))) (hv : fs[j]? = some v) (hdg : decode cc pc = .ok (.getfield index, 3))
    (kk : W p l e R s m args below meth c H locs cells slots Q (F0 m (pc + 3) ls (v :: rest))) : W p l e R s m args below meth c H locs cells slots Q (F0 m pc ls (.ref a :: rest)) := by
  obtain ⟨hx, hb, hml, hown, hG, hK, hN, hA⟩ := F
  subst hsame
  have hroH : va_P D vwCl ro H := hro.kept (fun k9 x hx9 => hr.2.2.1.2.1 x.1 ((hro k9 x hx9).lt) (hna x (List.mem_of_getElem? hx9)))
  exact va_get hx hb hG hin hown hK hroH _ he hc j hj (hG _ hl) (fun _ h => h) hv hdg kk
theorem zc_getRN {ref Cn host : String} {T : u_T} {N index : Nat} {v : Value} (hc : vwCl[k]? = some (Cn, T, N)) (hin : ∀ w ∈ u_ws Cn T N, w ∈ zGW) (hj : j < N) (hl : Cond.fieldLinkNest own index ref (T j).2.1 (T j).2.2.1 host ∈ zNL) (hsame : ref = (T j).1)
    (F : zFk p m c cc nL s args own D cy A) (hro : va_P D vwCl ro s.heap) (hna : ∀ x ∈ ro, ¬ A x.1) (hr : zRC D cy B ids A s.heap z cs H locs) (i : Nat) (he : ro[i]? = some (a, .inr (k, fs))) (hv : fs[j]? = some v) (hdg : decode cc pc = .ok (.getfield index, 3))
    (kk : W p l e R s m args below meth c H locs cells slots Q (F0 m (pc + 3) ls (v :: rest))) : W p l e R s m args below meth c H locs cells slots Q (F0 m pc ls (.ref a :: rest)) := by
  obtain ⟨hx, hb, hml, hown, hG, hK, hN, hA⟩ := F
  subst hsame
  have hroH : va_P D vwCl ro H := hro.kept (fun k9 x hx9 => hr.2.2.1.2.1 x.1 ((hro k9 x hx9).lt) (hna x (List.mem_of_getElem? hx9)))
  exact va_getN hx hb hG hin hown hK hroH _ he hc j hj (hN _ hl) (fun _ h => h) hv hdg kk
end ZRO
