/-! contracts over the state, calls, ends -/
def zAd (B : Nat → Nat → Nat) (ids : List (Nat × Nat)) (sz : Nat) : Nat → Prop := fun q => (∃ k o, (k, o) ∈ ids ∧ q = B k o) ∨ sz ≤ q
def zSt (B : Nat → Nat → Nat) (ids : List (Nat × Nat)) : Prop := ids.Nodup ∧ zCl ids ∧ ∀ k o k' o', (k, o) ∈ ids → (k', o') ∈ ids → B k o = B k' o' → (k, o) = (k', o')
theorem zD_of {cy : Nat → ClassId} {B : Nat → Nat → Nat} {ids : List (Nat × Nat)} (h : zSt B ids) (sz : Nat) (z : St) : va_D (zAd B ids sz) (zw cy B ids z) := by
  refine ⟨fun i j p q hi hj he => ?_, fun k q hk => ?_⟩
  · simp only [zw, List.getElem?_map] at hi hj
    cases hx : ids[i]? with
    | none => rw [hx] at hi; cases hi
    | some a =>
      cases hy : ids[j]? with
      | none => rw [hy] at hj; cases hj
      | some b =>
        rw [hx] at hi
        rw [hy] at hj
        simp only [Option.map_some, Option.some.injEq] at hi hj
        subst hi
        subst hj
        have hab := h.2.2 a.1 a.2 b.1 b.2 (List.mem_of_getElem? hx) (List.mem_of_getElem? hy) he
        have : ids[i]? = ids[j]? := by rw [hx, hy]; exact congrArg some hab
        exact (List.getElem?_inj (List.getElem?_eq_some_iff.mp hx).1 h.1).mp this
  · simp only [zw, List.getElem?_map] at hk
    cases hx : ids[k]? with
    | none => rw [hx] at hk; cases hk
    | some a =>
      rw [hx] at hk
      simp only [Option.map_some, Option.some.injEq] at hk
      subst hk
      exact Or.inl ⟨a.1, a.2, List.mem_of_getElem? hx, rfl⟩
def zPre (D : va_G) (cy : Nat → ClassId) (B : Nat → Nat → Nat) (ids : List (Nat × Nat)) (z : St) (sz : Nat) (U : State) : Prop := U.heap.size = sz ∧ va_P D vwCl (zw cy B ids z) U.heap ∧ va_K D vwCl (zty cy) U ∧ zNW U
def zQc (D : va_G) (cy : Nat → ClassId) (B : Nat → Nat → Nat) (ids : List (Nat × Nat)) (v : Option Value) (X : Prop) (z' : St) (A1 : Nat → Prop) : Array Value → State → Outcome → State → Prop := fun _ st oc t => (oc = .returned v ∧ va_P D vwCl (zw cy B ids z') t.heap ∧ zWf ids z' ∧ X) ∧ va_F A1 st t
def zM (l : Launch) (y : MethodName) (ws : List Cond) (rm : Room) (D : va_G) (cy : Nat → ClassId) (B : Nat → Nat → Nat) (ids : List (Nat × Nat)) (av : List Value) (v : Option Value) (X : Prop) (z z' : St) : Prop := ∀ sz : Nat, Met l y ws rm (va_Pc av (zPre D cy B ids z sz)) (zQc D cy B ids v X z' (zAd B ids sz)) 0 0 (zAd B ids sz)
def zws (y : MethodName) (cc : ByteArray) (maxL : Nat) (ret : Option FieldType) : List Cond := Cond.code y cc maxL ret :: zGW
theorem zGW_good {w : Cond} (h : w ∈ zGW) : goodWord w = true := (List.mem_filter.mp h).2
theorem zws_good {y : MethodName} {cc : ByteArray} {maxL : Nat} {ret : Option FieldType} (h : Cond.code y cc maxL ret ∈ zGW) : GoodIn zGW (zws y cc maxL ret) := by
  intro w hw
  have hm : w ∈ zGW := by
    rcases List.mem_cons.mp hw with e | e
    · rw [e]; exact h
    · exact e
  exact ⟨hm, good_of_word (zGW_good hm)⟩
theorem zM_of {l : Launch} {y : MethodName} {cc : ByteArray} {maxL : Nat} {ret : Option FieldType} {rm : Room} {D : va_G} {cy : Nat → ClassId} {B : Nat → Nat → Nat} {ids : List (Nat × Nat)} {av : List Value} {v : Option Value} {X : Prop} {z z' : St} (hst : zSt B ids) (hW : zWf ids z) (hy : plainName y.cls = true) (hlen : (lg_sl av).length ≤ maxL)
    (body : ∀ (p : Program) (e : Env) (s : State) (m : MethodId) (args : Array Value) (below : List Frame) (meth : Method) (c : Code) (A : Nat → Prop) (ls : Array Slot), zFx p m c cc maxL s args y.cls D cy B ids A → (∀ q : Nat, s.heap.size ≤ q → A q) → meth.sig.returnType = ret → meth.locks = false → zRep D cy B ids A s.heap z s.heap [] → lv_has ls maxL (lv_args 0 av) →
      W p l e rm s m args below meth c s.heap [] 0 0 (MQ below (zQc D cy B ids v X z' A) args s 0 0 A) (F0 m 0 ls [])) : zM l y (zws y cc maxL ret) rm D cy B ids av v X z z' := by
  intro sz
  refine Met.ofW (cc := cc) (maxL := maxL) (ret := ret) hy rfl ?_
  intro p e s m args below meth c s₁ B' hml hv
  obtain ⟨rfl, hsz, hP, hK, hN⟩ := hv
  have hts := atoms_spec (ws := zws y cc maxL ret) B'.pre
  have hown := findClass_of_methodNamed B'.named
  have hlocks := B'.notSynchronized
  subst hsz
  rw [lg_entry_eq]
  exact body p e s m _ below meth c (zAd B ids s.heap.size) _ ⟨B'.exec, B'.bytes, hml, hown, fun w h => hts w (List.mem_cons_of_mem _ h), hK, hN, hst.1, hst.2.1, zD_of hst _⟩ (fun q h => Or.inr h) B'.returns hlocks ⟨hP, va_S.rf, hW⟩ (lv_entry av hlen)
section ZC
variable {p : Program} {l : Launch} {e : Env} {R : Room} {s : State} {m : MethodId} {args : Array Value} {below : List Frame} {meth : Method} {c : Code} {H : Heap} {locs : List Loc} {cells slots : Nat} {Q : State → Prop}
variable {cc : ByteArray} {nL pc : Nat} {ls : Array Slot} {rest st0 : List Value} {own : String} {D : va_G} {cy : Nat → ClassId} {B : Nat → Nat → Nat} {ids : List (Nat × Nat)} {A : Nat → Prop} {z z' : St} {k o : Nat} {v : Option Value} {X : Prop}
theorem zr_call {a : Array Value} (hrun : va_Run p l e R s m args below meth c H locs cells slots 0 0 (F0 m pc ls st0) rest (zQc D cy B ids v X z' (zAd B ids H.size) a) (zAd B ids H.size))
    (F : zFx p m c cc nL s args own D cy B ids A) (hA : ∀ q : Nat, s.heap.size ≤ q → A q) (hr : zRep D cy B ids A s.heap z H locs)
    (kk : ∀ (H1 : Heap) (locs1 : List Loc), X → zRep D cy B ids A s.heap z' H1 locs1 → W p l e R s m args below meth c H1 locs1 cells slots Q (F0 m (pc + 3) ls (v.toList ++ rest))) : W p l e R s m args below meth c H locs cells slots Q (F0 m pc ls st0) := by
  obtain ⟨hx, hb, hml, hown, hG, hK, hN, hnd, hcl, hD⟩ := F
  have hf : ∀ q : Nat, zAd B ids H.size q → A q := by
    intro q h
    rcases h with ⟨k, o, hm, rfl⟩ | h
    · obtain ⟨q0, -, h1⟩ := zw_at (cy := cy) (B := B) z hm
      exact (hD z).2 q0 _ h1
    · exact hA q (Nat.le_trans hr.2.1.1 h)
  intro T hT X
  obtain ⟨v1, st₀, t, T', L, h0, X', hL, e1, e2, ⟨⟨hv, hP, hW, hX⟩, hz, hk⟩, st⟩ := hrun T hT X
  cases hv
  rw [h0] at hz hk
  obtain ⟨t2, a1, b1⟩ := kk T'.heap (locs ++ L) hX ⟨by rw [e1]; exact hP, ⟨Nat.le_trans hr.2.1.1 (by rw [e1]; exact hz), fun q h1 h2 => by rw [e1, hk q (Nat.lt_of_lt_of_le h1 hr.2.1.1) (fun y => h2 (hf q y))]; exact hr.2.1.2.1 q h1 h2, fun q hq => by
      rcases List.mem_append.mp hq with h | h
      · exact hr.2.1.2.2 q h
      · exact hf _ (hL q h)⟩, hW⟩ T' rfl X'
  exact ⟨t2, st t2 a1, b1⟩
theorem zblind {av : List Value} {sz : Nat} : FrameBlind (va_Pc av (zPre D cy B ids z sz)) := by
  intro a U g mk q
  obtain ⟨q0, q1, q2, q3, q4⟩ := q
  exact ⟨q0, q1, q2, va_K.moved (u := U) (U := U.calling g mk a) (Vm.Alike.refl U.vm) q3, zNW_vm (u := U) (U := U.calling g mk a) rfl q4⟩
theorem zrun_VN {y : MethodName} {bytes : ByteArray} {maxL index : Nat} {ret : Option FieldType} {rm : Room} {host : String} {As : List Value} {T : u_T} {N : Nat}
    (hl : Cond.methodLinkNest own index y host ∈ zNL) (hi : Cond.instanceMethod y ∈ zGW) (hse : Cond.selects y.cls y y ∈ zGW) (hco : Cond.code y bytes maxL ret ∈ zGW) (hin : Cond.initialized y.cls ∈ zGW) (hd : y.cls ≠ "java/lang/invoke/MethodHandle" ∧ y.cls ≠ "java/lang/invoke/VarHandle" ∧ (parseMethodDescriptor y.desc).map (fun d => d.parameters.length) = some As.length) (hk : k < 100) (hc : vwCl[k]? = some (y.cls, T, N))
    (hM : zM l y (zws y bytes maxL ret) rm D cy B ids (.ref (B k o) :: As) v X z z') (F : zFx p m c cc nL s args own D cy B ids A) (hr : zRep D cy B ids A s.heap z H locs) (hm : (k, o) ∈ ids) (hls : ls.size = nL) (hstk : st0 = As.reverse ++ .ref (B k o) :: rest) (hW : (rest.map fun v => v.category).sum ≤ 8) (hdg : decode cc pc = .ok (.invokevirtual index, 3))
    (hrc : rm.cells = 0) (hrs : rm.slots = 0) (hR : rm.frames + 1 ≤ R.frames ∧ 8 + (maxL + 11) + rm.locals ≤ R.locals) (hcs : cells ≤ R.cells ∧ slots ≤ R.slots) :
    va_Run p l e R s m args below meth c H locs cells slots 0 0 (F0 m pc ls st0) rest (zQc D cy B ids v X z' (zAd B ids H.size) (Value.ref (B k o) :: As).toArray) (zAd B ids H.size) := by
  obtain ⟨hx, hb, hml, hown, hG, hK, hN, hnd, hcl, hD⟩ := F
  obtain ⟨q0, h0, h1⟩ := zw_at (cy := cy) (B := B) z hm
  rw [zcel_o hk] at h1
  exact va_runVN ⟨hx, hb, hml, hown, hG⟩ (hM H.size) ⟨va_cnB As.length hG (zws_good hco) rfl hrc hrs (hN _ hl) (hG _ hin) hd hR, hG _ hi, hG _ hse⟩ ⟨zblind, va_recv hK hr.1 hc h1, fun U hU hW => ⟨rfl, by rw [hU], by rw [hU]; exact hr.1, va_K.moved hW.alike hK, zNW_warm hW hN⟩⟩ rfl rfl hls hstk (lv_room hW) hdg hcs
theorem zrun_V {y : MethodName} {bytes : ByteArray} {maxL index : Nat} {ret : Option FieldType} {rm : Room} {As : List Value} {T : u_T} {N : Nat}
    (hl : Cond.methodLink own index y ∈ zGW) (hi : Cond.instanceMethod y ∈ zGW) (hse : Cond.selects y.cls y y ∈ zGW) (hco : Cond.code y bytes maxL ret ∈ zGW) (hin : Cond.initialized y.cls ∈ zGW) (hd : y.cls ≠ "java/lang/invoke/MethodHandle" ∧ y.cls ≠ "java/lang/invoke/VarHandle" ∧ (parseMethodDescriptor y.desc).map (fun d => d.parameters.length) = some As.length) (hk : k < 100) (hc : vwCl[k]? = some (y.cls, T, N))
    (hM : zM l y (zws y bytes maxL ret) rm D cy B ids (.ref (B k o) :: As) v X z z') (F : zFx p m c cc nL s args own D cy B ids A) (hr : zRep D cy B ids A s.heap z H locs) (hm : (k, o) ∈ ids) (hls : ls.size = nL) (hstk : st0 = As.reverse ++ .ref (B k o) :: rest) (hW : (rest.map fun v => v.category).sum ≤ 8) (hdg : decode cc pc = .ok (.invokevirtual index, 3))
    (hrc : rm.cells = 0) (hrs : rm.slots = 0) (hR : rm.frames + 1 ≤ R.frames ∧ 8 + (maxL + 11) + rm.locals ≤ R.locals) (hcs : cells ≤ R.cells ∧ slots ≤ R.slots) :
    va_Run p l e R s m args below meth c H locs cells slots 0 0 (F0 m pc ls st0) rest (zQc D cy B ids v X z' (zAd B ids H.size) (Value.ref (B k o) :: As).toArray) (zAd B ids H.size) := by
  obtain ⟨hx, hb, hml, hown, hG, hK, hN, hnd, hcl, hD⟩ := F
  obtain ⟨q0, h0, h1⟩ := zw_at (cy := cy) (B := B) z hm
  rw [zcel_o hk] at h1
  exact va_runV ⟨hx, hb, hml, hown, hG⟩ (hM H.size) ⟨callB_of As.length hG (zws_good hco) rfl hrc hrs (hG _ hin) (hG _ hl) hd hR, hG _ hi, hG _ hse⟩ ⟨zblind, va_recv hK hr.1 hc h1, fun U hU hW => ⟨rfl, by rw [hU], by rw [hU]; exact hr.1, va_K.moved hW.alike hK, zNW_warm hW hN⟩⟩ rfl rfl hls hstk (lv_room hW) hdg hcs
theorem zrun_S {y : MethodName} {bytes : ByteArray} {maxL index : Nat} {ret : Option FieldType} {rm : Room} {As : List Value}
    (hl : Cond.methodLink own index y ∈ zGW) (hi : Cond.static y ∈ zGW) (hco : Cond.code y bytes maxL ret ∈ zGW) (hin : Cond.initialized y.cls ∈ zGW) (hd : y.cls ≠ "java/lang/invoke/MethodHandle" ∧ y.cls ≠ "java/lang/invoke/VarHandle" ∧ (parseMethodDescriptor y.desc).map (fun d => d.parameters.length) = some As.length)
    (hM : zM l y (zws y bytes maxL ret) rm D cy B ids As v X z z') (F : zFx p m c cc nL s args own D cy B ids A) (hr : zRep D cy B ids A s.heap z H locs) (hls : ls.size = nL) (hstk : st0 = As.reverse ++ rest) (hW : (rest.map fun v => v.category).sum ≤ 8) (hdg : decode cc pc = .ok (.invokestatic index, 3))
    (hrc : rm.cells = 0) (hrs : rm.slots = 0) (hR : rm.frames + 1 ≤ R.frames ∧ 8 + (maxL + 11) + rm.locals ≤ R.locals) (hcs : cells ≤ R.cells ∧ slots ≤ R.slots) :
    va_Run p l e R s m args below meth c H locs cells slots 0 0 (F0 m pc ls st0) rest (zQc D cy B ids v X z' (zAd B ids H.size) As.toArray) (zAd B ids H.size) := by
  obtain ⟨hx, hb, hml, hown, hG, hK, hN, hnd, hcl, hD⟩ := F
  exact va_runS ⟨hx, hb, hml, hown, hG⟩ (hM H.size) ⟨callB_of As.length hG (zws_good hco) rfl hrc hrs (hG _ hin) (hG _ hl) hd hR, hG _ hi⟩ ⟨zblind, fun U hU hW => ⟨rfl, by rw [hU], by rw [hU]; exact hr.1, va_K.moved hW.alike hK, zNW_warm hW hN⟩⟩ rfl rfl hls hstk (lv_room hW) hdg hcs
theorem zrun_SN {y : MethodName} {bytes : ByteArray} {maxL index : Nat} {ret : Option FieldType} {rm : Room} {host : String} {As : List Value}
    (hl : Cond.methodLinkNest own index y host ∈ zNL) (hi : Cond.static y ∈ zGW) (hco : Cond.code y bytes maxL ret ∈ zGW) (hin : Cond.initialized y.cls ∈ zGW) (hd : y.cls ≠ "java/lang/invoke/MethodHandle" ∧ y.cls ≠ "java/lang/invoke/VarHandle" ∧ (parseMethodDescriptor y.desc).map (fun d => d.parameters.length) = some As.length)
    (hM : zM l y (zws y bytes maxL ret) rm D cy B ids As v X z z') (F : zFx p m c cc nL s args own D cy B ids A) (hr : zRep D cy B ids A s.heap z H locs) (hls : ls.size = nL) (hstk : st0 = As.reverse ++ rest) (hW : (rest.map fun v => v.category).sum ≤ 8) (hdg : decode cc pc = .ok (.invokestatic index, 3))
    (hrc : rm.cells = 0) (hrs : rm.slots = 0) (hR : rm.frames + 1 ≤ R.frames ∧ 8 + (maxL + 11) + rm.locals ≤ R.locals) (hcs : cells ≤ R.cells ∧ slots ≤ R.slots) :
    va_Run p l e R s m args below meth c H locs cells slots 0 0 (F0 m pc ls st0) rest (zQc D cy B ids v X z' (zAd B ids H.size) As.toArray) (zAd B ids H.size) := by
  obtain ⟨hx, hb, hml, hown, hG, hK, hN, hnd, hcl, hD⟩ := F
  exact va_runSN ⟨hx, hb, hml, hown, hG⟩ (hM H.size) ⟨va_cnB As.length hG (zws_good hco) rfl hrc hrs (hN _ hl) (hG _ hin) hd hR, hG _ hi, trivial⟩ ⟨zblind, fun U hU hW => ⟨rfl, by rw [hU], by rw [hU]; exact hr.1, va_K.moved hW.alike hK, zNW_warm hW hN⟩⟩ rfl rfl hls hstk (lv_room hW) hdg hcs
/-! ends -/
def zEnd (p : Program) (l : Launch) (e : Env) (R : Room) (s : State) (m : MethodId) (args : Array Value) (below : List Frame) (meth : Method) (c : Code) (cc : ByteArray) (D : va_G) (cy : Nat → ClassId) (B : Nat → Nat → Nat) (ids : List (Nat × Nat)) (A : Nat → Prop) (Q : State → Prop) (v : Option Value) (z' : St) (ins : Instr) (P : Prop) : Prop :=
  ∀ (pc : Nat) (ls : Array Slot) (H : Heap) (locs : List Loc), decode cc pc = .ok (ins, 1) → P → zRep D cy B ids A s.heap z' H locs → W p l e R s m args below meth c H locs 0 0 Q (F0 m pc ls v.toList)
theorem zEnd_i {r : Int32} (F : zFx p m c cc nL s args own D cy B ids A) (hret : meth.sig.returnType = some .int) (hlocks : meth.locks = false) : zEnd p l e R s m args below meth c cc D cy B ids A (MQ below (zQc D cy B ids (some (.int r)) True z' A) args s 0 0 A) (some (.int r)) z' .ireturn True :=
  fun pc ls H locs hdg _ hr => W.iret F.1 F.2.1 hret (fun t ht hW => ⟨⟨rfl, by rw [ht]; exact hr.1, hr.2.2, trivial⟩, hr.2.1.F ht⟩) hr.2.1.2.2 hdg hlocks
theorem zEnd_v (F : zFx p m c cc nL s args own D cy B ids A) (hret : meth.sig.returnType = none) (hlocks : meth.locks = false) : zEnd p l e R s m args below meth c cc D cy B ids A (MQ below (zQc D cy B ids none True z' A) args s 0 0 A) none z' .return_ True :=
  fun pc ls H locs hdg _ hr => W.vret F.1 F.2.1 hret (fun t ht hW => ⟨⟨rfl, by rw [ht]; exact hr.1, hr.2.2, trivial⟩, hr.2.1.F ht⟩) hr.2.1.2.2 hdg hlocks
theorem znar_o {r : Int32} (h : r = 0 ∨ r = 1) : narrow .boolean (.int r) = .int r := by
  rcases h with h | h <;> subst h <;> rfl
theorem zfit_o {r : Int32} (h : r = 0 ∨ r = 1) : fits .boolean (.int r) = true := by
  rcases h with h | h <;> subst h <;> rfl
theorem zEnd_z {r : Int32} (F : zFx p m c cc nL s args own D cy B ids A) (hret : meth.sig.returnType = some .boolean) (hlocks : meth.locks = false) : zEnd p l e R s m args below meth c cc D cy B ids A (MQ below (zQc D cy B ids (some (.int r)) (r = 0 ∨ r = 1) z' A) args s 0 0 A) (some (.int r)) z' .ireturn (r = 0 ∨ r = 1) :=
  fun pc ls H locs hdg hn hr => W.zret F.1 F.2.1 hret (znar_o hn) (fun t ht hW => ⟨⟨rfl, by rw [ht]; exact hr.1, hr.2.2, hn⟩, hr.2.1.F ht⟩) hr.2.1.2.2 hdg hlocks
theorem zEnd_y {r : Int32} (F : zFx p m c cc nL s args own D cy B ids A) (hret : meth.sig.returnType = some .byte) (hlocks : meth.locks = false) : zEnd p l e R s m args below meth c cc D cy B ids A (MQ below (zQc D cy B ids (some (.int r)) (vp_nar .byte r = r) z' A) args s 0 0 A) (some (.int r)) z' .ireturn (vp_nar .byte r = r) :=
  fun pc ls H locs hdg hn hr => W.zret F.1 F.2.1 hret (show narrow .byte (.int r) = .int r by rw [show narrow .byte (.int r) = .int (vp_nar .byte r) from rfl, hn]) (fun t ht hW => ⟨⟨rfl, by rw [ht]; exact hr.1, hr.2.2, hn⟩, hr.2.1.F ht⟩) hr.2.1.2.2 hdg hlocks
theorem zEnd_r {x : Option Nat} {t : Nat} {C : String} (F : zFx p m c cc nL s args own D cy B ids A) (hret : meth.sig.returnType = some (.object C)) (hlocks : meth.locks = false) : zEnd p l e R s m args below meth c cc D cy B ids A (MQ below (zQc D cy B ids (some (va_rf (x.map (B t)))) (∀ i, x = some i → (t, i) ∈ ids) z' A) args s 0 0 A) (some (va_rf (x.map (B t)))) z' .areturn (∀ i, x = some i → (t, i) ∈ ids) :=
  fun pc ls H locs hdg hn hr => W.aret F.1 F.2.1 hret (Or.inl ⟨_, rfl⟩) (by cases x with | none => exact Or.inl rfl | some a => exact Or.inr ⟨_, rfl⟩) (fun t ht hW => ⟨⟨rfl, by rw [ht]; exact hr.1, hr.2.2, hn⟩, hr.2.1.F ht⟩) hr.2.1.2.2 hdg hlocks
theorem zr_calli {a : Array Value} {r : Int32} (hrun : va_Run p l e R s m args below meth c H locs cells slots 0 0 (F0 m pc ls st0) rest (zQc D cy B ids (some (.int r)) X z' (zAd B ids H.size) a) (zAd B ids H.size))
    (F : zFx p m c cc nL s args own D cy B ids A) (hA : ∀ q : Nat, s.heap.size ≤ q → A q) (hr : zRep D cy B ids A s.heap z H locs)
    (kk : ∀ (H1 : Heap) (locs1 : List Loc), X → zRep D cy B ids A s.heap z' H1 locs1 → W p l e R s m args below meth c H1 locs1 cells slots Q (F0 m (pc + 3) ls (.int r :: rest))) : W p l e R s m args below meth c H locs cells slots Q (F0 m pc ls st0) := zr_call hrun F hA hr kk
theorem zr_callv {a : Array Value} (hrun : va_Run p l e R s m args below meth c H locs cells slots 0 0 (F0 m pc ls st0) rest (zQc D cy B ids none X z' (zAd B ids H.size) a) (zAd B ids H.size))
    (F : zFx p m c cc nL s args own D cy B ids A) (hA : ∀ q : Nat, s.heap.size ≤ q → A q) (hr : zRep D cy B ids A s.heap z H locs)
    (kk : ∀ (H1 : Heap) (locs1 : List Loc), X → zRep D cy B ids A s.heap z' H1 locs1 → W p l e R s m args below meth c H1 locs1 cells slots Q (F0 m (pc + 3) ls rest)) : W p l e R s m args below meth c H locs cells slots Q (F0 m pc ls st0) := zr_call hrun F hA hr kk
theorem zr_callr {a : Array Value} {x : Option Nat} {t : Nat} (hrun : va_Run p l e R s m args below meth c H locs cells slots 0 0 (F0 m pc ls st0) rest (zQc D cy B ids (some (va_rf (x.map (B t)))) X z' (zAd B ids H.size) a) (zAd B ids H.size))
    (F : zFx p m c cc nL s args own D cy B ids A) (hA : ∀ q : Nat, s.heap.size ≤ q → A q) (hr : zRep D cy B ids A s.heap z H locs)
    (kk : ∀ (H1 : Heap) (locs1 : List Loc), X → zRep D cy B ids A s.heap z' H1 locs1 → W p l e R s m args below meth c H1 locs1 cells slots Q (F0 m (pc + 3) ls (va_rf (x.map (B t)) :: rest))) : W p l e R s m args below meth c H locs cells slots Q (F0 m pc ls st0) := zr_call hrun F hA hr kk
theorem zret {α : Type} {a b : α} {z1 z2 : St} (h : some (a, z1) = some (b, z2)) : a = b ∧ z1 = z2 := by
  have h1 := Option.some.inj h
  exact ⟨congrArg Prod.fst h1, congrArg Prod.snd h1⟩
/-! what is alive -/
theorem zal_s {a : Nat} (h : (k, a) ∈ ids) : ∀ t, some a = some t → (k, t) ∈ ids := fun t e => Option.some.inj e ▸ h
theorem zal_0 : ∀ t, (none : Option Nat) = some t → (k, t) ∈ ids := fun t e => by cases e
theorem zal_g {j t : Nat} {x : Option Nat} (hr : zRep D cy B ids A s.heap z H locs) (hm : (k, o) ∈ ids) (hf : zkF k j = (1, t)) (ex : x = zgR z k j o) : ∀ i, x = some i → (t, i) ∈ ids := by
  intro i e
  have h := hr.2.2.1 k j o i hm (by rw [hf]) (ex ▸ e)
  rw [hf] at h
  exact h
theorem zal_q {n t ti : Nat} {i : Nat} {x : Option Nat} (hr : zRep D cy B ids A s.heap z H locs) (hm : (k, o) ∈ ids) (hf : zkA k = (4, n, t, ti)) (ex : x = zgQ z k o i) : ∀ i, x = some i → (t, i) ∈ ids := by
  intro y e
  have h := hr.2.2.2.1 k o i y hm (by rw [hf]) (ex ▸ e)
  rw [hf] at h
  exact h
theorem zal_a {j t : Nat} (F : zFx p m c cc nL s args own D cy B ids A) (hm : (k, o) ∈ ids) (hf : zkF k j = (2, t)) : (t, o) ∈ ids := by
  have h := F.2.2.2.2.2.2.2.2.1.1 k o j hm (by rw [hf])
  rw [hf] at h
  exact h
theorem zal_w {n t ti : Nat} {i : Int32} (F : zFx p m c cc nL s args own D cy B ids A) (hm : (k, o) ∈ ids) (hf : zkA k = (5, n, t, ti)) (hi : vp_in i n) : (t, o * n + i.toNatClampNeg) ∈ ids := by
  have h := F.2.2.2.2.2.2.2.2.1.2 k o i.toNatClampNeg hm (by rw [hf]) (by rw [hf]; exact Nat.lt_of_not_le fun q => hi (Or.inr q))
  rw [hf] at h
  exact h
theorem zr_aaldv {n t ti : Nat} {C : String} {x : Int32} (hk : 100 ≤ k) (hA : zkA k = (4, n, t, ti)) (hty : (zty cy)[ti]? = some (cy ti, .object C)) {N1 : Nat} (hn : zlen z k o = N1) (F : zFx p m c cc nL s args own D cy B ids A) (hm : (k, o) ∈ ids) (hr : zRep D cy B ids A s.heap z H locs) (hdg : decode cc pc = .ok (.aaload, 1)) (hin : vp_in x N1)
    (kk : ∀ y : Option Nat, y = zgQ z k o x.toNatClampNeg → W p l e R s m args below meth c H locs cells slots Q (F0 m (pc + 1) ls (va_rf (y.map (B t)) :: rest))) : W p l e R s m args below meth c H locs cells slots Q (F0 m pc ls (.int x :: .ref (B k o) :: rest)) :=
  zr_aald hk hA hty F hm hr hdg (by rw [hn]; exact hin) (kk _ rfl)
theorem zB_inj (hst : zSt B ids) {x y : Option Nat} (hx : ∀ t, x = some t → (k, t) ∈ ids) (hy : ∀ t, y = some t → (k, t) ∈ ids) : x.map (B k) = y.map (B k) ↔ x = y := by
  cases x with
  | none => cases y with
    | none => simp
    | some b => simp
  | some a => cases y with
    | none => simp
    | some b =>
      simp only [Option.map_some, Option.some.injEq]
      refine ⟨fun e => ?_, fun e => by rw [e]⟩
      have := hst.2.2 k a k b (hx a rfl) (hy b rfl) e
      exact congrArg Prod.snd this
theorem zr_acmp_eq (hst : zSt B ids) {x y : Option Nat} {off : Int} {tgt : Nat} (hx0 : p.tables.exec = Jvm.exec) (hb : c.code = cc) (hdg : decode cc pc = .ok (.if_acmp .eq off, 3)) (ht : (pc : Int) + off = (tgt : Int)) (hx : ∀ t, x = some t → (k, t) ∈ ids) (hy : ∀ t, y = some t → (k, t) ∈ ids)
    (kt : x = y → W p l e R s m args below meth c H locs cells slots Q (F0 m tgt ls rest)) (kf : ¬ x = y → W p l e R s m args below meth c H locs cells slots Q (F0 m (pc + 3) ls rest)) : W p l e R s m args below meth c H locs cells slots Q (F0 m pc ls (va_rf (y.map (B k)) :: va_rf (x.map (B k)) :: rest)) :=
  lv_acmp_eq hx0 hb hdg ht (fun q => kt ((zB_inj hst hx hy).mp q)) (fun q => kf (fun w => q ((zB_inj hst hx hy).mpr w)))
theorem zr_acmp_ne (hst : zSt B ids) {x y : Option Nat} {off : Int} {tgt : Nat} (hx0 : p.tables.exec = Jvm.exec) (hb : c.code = cc) (hdg : decode cc pc = .ok (.if_acmp .ne off, 3)) (ht : (pc : Int) + off = (tgt : Int)) (hx : ∀ t, x = some t → (k, t) ∈ ids) (hy : ∀ t, y = some t → (k, t) ∈ ids)
    (kt : ¬ x = y → W p l e R s m args below meth c H locs cells slots Q (F0 m tgt ls rest)) (kf : x = y → W p l e R s m args below meth c H locs cells slots Q (F0 m (pc + 3) ls rest)) : W p l e R s m args below meth c H locs cells slots Q (F0 m pc ls (va_rf (y.map (B k)) :: va_rf (x.map (B k)) :: rest)) :=
  lv_acmp_ne hx0 hb hdg ht (fun q => kt (fun w => q ((zB_inj hst hx hy).mpr w))) (fun q => kf ((zB_inj hst hx hy).mp q))
end ZC
