/-! a constructor called by one that makes: its cell is the last of those that are being made -/
theorem zjoin {D : va_G} {cl : List vw_C} {A : Nat → Prop} {X Y : va_W} {q : Nat} {e : va_E} {H H1 : Heap} (hP : va_P D cl (X ++ [(q, e)]) H) (hD : va_D A (X ++ [(q, e)])) (hk : ∀ a : Nat, a < H.size → ¬ va_A [(q, e)] H.size a → H1[a]? = H[a]?) (hP1 : va_P D cl Y H1) (hD1 : va_D (va_A [(q, e)] H.size) Y) (hA : ∀ a : Nat, H.size ≤ a → A a) : va_P D cl (X ++ Y) H1 ∧ va_D A (X ++ Y) := by
  have hX : ∀ (k : Nat) (x : Nat × va_E), X[k]? = some x → (X ++ [(q, e)])[k]? = some x := fun k x h => by
    rw [List.getElem?_append_left (List.getElem?_eq_some_iff.mp h).1]; exact h
  have hl : (X ++ [(q, e)])[X.length]? = some (q, e) := by
    rw [List.getElem?_append_right (Nat.le_refl _), Nat.sub_self]; rfl
  have hne : ∀ (k : Nat) (x : Nat × va_E), X[k]? = some x → x.1 < H.size ∧ ¬ va_A [(q, e)] H.size x.1 := by
    intro k x h
    have hlt := (hP k x (hX k x h)).lt
    refine ⟨hlt, fun hv => ?_⟩
    rcases hv with ⟨k', e', h'⟩ | h'
    · have he : x.1 = q := by
        cases k' with
        | zero => have := Option.some.inj h'; exact (congrArg Prod.fst this).symm
        | succ n => cases h'
      have := hD.1 k X.length x (q, e) (hX k x h) hl he
      have h2 := (List.getElem?_eq_some_iff.mp h).1
      omega
    · omega
  have hq : A q := hD.2 X.length (q, e) hl
  have split : ∀ (k : Nat) (x : Nat × va_E), (X ++ Y)[k]? = some x → X[k]? = some x ∨ (X.length ≤ k ∧ Y[k - X.length]? = some x) := by
    intro k x h
    rcases Nat.lt_or_ge k X.length with w | w
    · rw [List.getElem?_append_left w] at h; exact Or.inl h
    · rw [List.getElem?_append_right w] at h; exact Or.inr ⟨w, h⟩
  have hYA : ∀ (k : Nat) (x : Nat × va_E), Y[k]? = some x → x.1 = q ∨ H.size ≤ x.1 := by
    intro k x h
    rcases hD1.2 k x h with ⟨k', e', h'⟩ | h'
    · left
      cases k' with
      | zero => have := Option.some.inj h'; exact (congrArg Prod.fst this).symm
      | succ n => cases h'
    · exact Or.inr h'
  refine ⟨fun k x h => ?_, fun i j x y hi hj hxy => ?_, fun k x h => ?_⟩
  · rcases split k x h with h | ⟨-, h⟩
    · obtain ⟨h1, h2⟩ := hne k x h
      exact (hP k x (hX k x h)).kept (hk x.1 h1 h2)
    · exact hP1 _ x h
  · rcases split i x hi with hi | ⟨wi, hi⟩ <;> rcases split j y hj with hj | ⟨wj, hj⟩
    · exact hD.1 i j x y (hX i x hi) (hX j y hj) hxy
    · exact absurd (hxy ▸ hD1.2 _ y hj) (hne i x hi).2
    · exact absurd (hxy ▸ hD1.2 _ x hi) (hne j y hj).2
    · have := hD1.1 _ _ x y hi hj hxy
      omega
  · rcases split k x h with h | ⟨-, h⟩
    · exact hD.2 k x (hX k x h)
    · rcases hYA _ x h with e | e
      · rw [e]; exact hq
      · exact hA _ e
section ZKC
variable {p : Program} {l : Launch} {e : Env} {R : Room} {s : State} {m : MethodId} {args : Array Value} {below : List Frame} {meth : Method} {c : Code} {H : Heap} {locs : List Loc} {cells slots : Nat} {Q : State → Prop}
variable {cc : ByteArray} {nL pc : Nat} {ls : Array Slot} {rest st0 : List Value} {own : String} {D : va_G} {cy : Nat → ClassId} {B : Nat → Nat → Nat} {ids : List (Nat × Nat)} {A : Nat → Prop} {z : St} {cs : va_W} {q : Nat} {ce : va_E} {post : va_W → Prop}
theorem zKblind {av : List Value} {c0 : va_W} {sz : Nat} : FrameBlind (va_Pc av (fun U => U.heap.size = sz ∧ va_P D vwCl c0 U.heap ∧ va_K D vwCl (zty cy) U ∧ zNW U ∧ zAO U ∧ va_D (fun _ => True) c0)) := by
  intro a U g mk q
  obtain ⟨q0, q1, q2, q3, q4, q5, q6⟩ := q
  exact ⟨q0, q1, q2, va_K.moved (u := U) (U := U.calling g mk a) (Vm.Alike.refl U.vm) q3, zNW_vm (u := U) (U := U.calling g mk a) rfl q4, zAO_moved (u := U) (U := U.calling g mk a) (Vm.Alike.refl U.vm) q5, q6⟩
/-- from the run of the constructor to what comes behind it -/
theorem zK_go {rm : Room} {a : Array Value} (hrun : va_Run p l e R s m args below meth c H locs cells slots rm.cells rm.slots (F0 m pc ls st0) rest (zKQ D post (va_A [(q, ce)] H.size) a) (va_A [(q, ce)] H.size))
    (F : zFk p m c cc nL s args own D cy A) (hr : zRC D cy B ids A s.heap z (cs ++ [(q, ce)]) H locs)
    (kk : ∀ (H1 : Heap) (locs1 : List Loc) (cs1 : va_W), post cs1 → zRC D cy B ids A s.heap z (cs ++ cs1) H1 locs1 → W p l e R s m args below meth c H1 locs1 (cells + rm.cells) (slots + rm.slots) Q (F0 m (pc + 3) ls rest)) : W p l e R s m args below meth c H locs cells slots Q (F0 m pc ls st0) := by
  obtain ⟨hx, hb, hml, hown, hG, hK, hN, hA⟩ := F
  obtain ⟨hP, hD, hS, hW⟩ := hr
  rw [← List.append_assoc] at hP hD
  have hAq : A q := hD.2 (zw cy B ids z ++ cs).length (q, ce) (by rw [List.getElem?_append_right (Nat.le_refl _), Nat.sub_self]; rfl)
  have hf : ∀ x : Nat, va_A [(q, ce)] H.size x → A x := by
    intro x hx
    rcases hx with ⟨k, e', h'⟩ | h'
    · cases k with
      | zero => have := Option.some.inj h'; rw [← show q = x from congrArg Prod.fst this]; exact hAq
      | succ n => cases h'
    · exact hA x (Nat.le_trans hS.1 h')
  intro T hT X
  obtain ⟨v1, st₀, t, T', L, h0, X', hL, e1, e2, ⟨⟨hv, cs1, hp, hP1, hD1⟩, hz, hk⟩, st⟩ := hrun T hT X
  cases hv
  rw [h0] at hz hk
  obtain ⟨j1, j2⟩ := zjoin hP hD hk hP1 hD1 (fun a h => hA a (Nat.le_trans hS.1 h))
  rw [List.append_assoc] at j1 j2
  obtain ⟨t2, a1, b1⟩ := kk T'.heap (locs ++ L) cs1 hp ⟨by rw [e1]; exact j1, j2, ⟨Nat.le_trans hS.1 (by rw [e1]; exact hz), fun x h1 h2 => by rw [e1, hk x (Nat.lt_of_lt_of_le h1 hS.1) (fun y => h2 (hf x y))]; exact hS.2.1 x h1 h2, fun x hx => by
      rcases List.mem_append.mp hx with h | h
      · exact hS.2.2 x h
      · exact hf _ (hL x h)⟩, hW⟩ T' rfl X'
  exact ⟨t2, st t2 a1, b1⟩
/-- a private constructor of a nest mate -/
theorem zK_callN {y : MethodName} {bytes : ByteArray} {maxL index : Nat} {rm : Room} {host : String} {As : List Value} (hAO : zAO s)
    (hl : Cond.methodLinkNest own index y host ∈ zNL) (hnm : y.name = "<init>") (hi : Cond.instanceMethod y ∈ zGW) (hco : Cond.code y bytes maxL none ∈ zGW) (hin : Cond.initialized y.cls ∈ zGW) (hd : y.cls ≠ "java/lang/invoke/MethodHandle" ∧ y.cls ≠ "java/lang/invoke/VarHandle" ∧ (parseMethodDescriptor y.desc).map (fun d => d.parameters.length) = some As.length)
    (hM : zKM l y (zws y bytes maxL none) rm D cy (.ref q :: As) [(q, ce)] post) (F : zFk p m c cc nL s args own D cy A) (hr : zRC D cy B ids A s.heap z (cs ++ [(q, ce)]) H locs) (hls : ls.size = nL) (hstk : st0 = As.reverse ++ .ref q :: rest) (hW : (rest.map fun v => v.category).sum ≤ 8) (hdg : decode cc pc = .ok (.invokespecial index, 3))
    (hR : rm.frames + 1 ≤ R.frames ∧ 8 + (maxL + 11) + rm.locals ≤ R.locals) (hcs : cells + rm.cells ≤ R.cells ∧ slots + rm.slots ≤ R.slots)
    (kk : ∀ (H1 : Heap) (locs1 : List Loc) (cs1 : va_W), post cs1 → zRC D cy B ids A s.heap z (cs ++ cs1) H1 locs1 → W p l e R s m args below meth c H1 locs1 (cells + rm.cells) (slots + rm.slots) Q (F0 m (pc + 3) ls rest)) : W p l e R s m args below meth c H locs cells slots Q (F0 m pc ls st0) := by
  refine zK_go (rm := rm) (a := (Value.ref q :: As).toArray) ?_ F hr kk
  obtain ⟨hx, hb, hml, hown, hG, hK, hN, hA⟩ := F
  obtain ⟨hP, hD, hS, hWf⟩ := hr
  rw [← List.append_assoc] at hP hD
  have hlast : (zw cy B ids z ++ cs ++ [(q, ce)])[(zw cy B ids z ++ cs).length]? = some (q, ce) := by
    rw [List.getElem?_append_right (Nat.le_refl _), Nat.sub_self]; rfl
  have hP0 : va_P D vwCl [(q, ce)] H := fun k x h => by
    cases k with
    | zero => cases Option.some.inj h; exact hP _ _ hlast
    | succ n => cases h
  have hD0 : va_D (fun _ => True) [(q, ce)] := by
    refine ⟨fun i j x y hi hj _ => ?_, fun _ _ _ => trivial⟩
    have h1 := (List.getElem?_eq_some_iff.mp hi).1
    have h2 := (List.getElem?_eq_some_iff.mp hj).1
    simp only [List.length_cons, List.length_nil] at h1 h2
    omega
  exact va_runIN ⟨hx, hb, hml, hown, hG⟩ (hM H.size) ⟨va_cnB As.length hG (zws_good hco) rfl rfl rfl (hN _ hl) (hG _ hin) hd hR, hnm, hG _ hi⟩ ⟨zKblind, fun U hU hW => ⟨rfl, by rw [hU], by rw [hU]; exact hP0, va_K.moved hW.alike hK, zNW_warm hW hN, zAO_moved hW.alike hAO, hD0⟩⟩ rfl rfl hls hstk (lv_room hW) hdg hcs
end ZKC
