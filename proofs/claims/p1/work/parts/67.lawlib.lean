/-! the law: its helpers catch what the class throws -/
def zLW : List Cond := [Cond.castable "java/lang/IllegalArgumentException" "java/lang/IllegalArgumentException", Cond.castable "java/lang/IllegalStateException" "java/lang/IllegalStateException"]
def zLK (U : State) : Prop := (∀ w ∈ zLW, va_Nw w U) ∧ va_Nc "java/lang/IllegalStateException" "java/lang/IllegalArgumentException" U
theorem zLW_is : ∀ w ∈ zLW, zisC w = true := by decide +kernel
theorem zLK_warm {s U : State} (hW : s.WarmedH U.vm) (h : zLK s) : zLK U := ⟨fun w hw => zC_warm (zLW_is w hw) hW (h.1 w hw), va_Nc.moved hW.alike h.2⟩
theorem zLK_vm {u U : State} (hv : u.vm = U.vm) (h : zLK u) : zLK U := ⟨fun w hw => va_Nw.same (zC_on (zLW_is w hw)) hv (h.1 w hw), va_Nc.moved (by rw [hv]; exact Vm.Alike.refl _) h.2⟩
theorem zLK_1 {args : Array Value} {s : State} (h : zLK s) : (Cond.castable (zEx 1) "java/lang/IllegalArgumentException").before args s = true := va_Nw.use rfl (h.1 _ (List.mem_of_getElem? (i := 0) rfl))
theorem zLK_2 {args : Array Value} {s : State} {k : Nat} (hk : ¬ k = 1) (h : zLK s) : (Cond.castable (zEx k) "java/lang/IllegalStateException").before args s = true := by
  have e : zEx k = "java/lang/IllegalStateException" := if_neg hk
  rw [e]
  exact va_Nw.use rfl (h.1 _ (List.mem_of_getElem? (i := 1) rfl))
theorem zLK_3 {s : State} {k : Nat} (hk : ¬ k = 1) (h : zLK s) : va_Nc (zEx k) "java/lang/IllegalArgumentException" s := by
  have e : zEx k = "java/lang/IllegalStateException" := if_neg hk
  rw [e]
  exact h.2
def zwsH (y : MethodName) (cc : ByteArray) (maxL : Nat) (ret : Option FieldType) (hh : List (Nat × Nat × Nat × Nat)) : List Cond := Cond.codeWith y cc maxL ret hh :: zGW
theorem zwsH_good {y : MethodName} {cc : ByteArray} {maxL : Nat} {ret : Option FieldType} {hh : List (Nat × Nat × Nat × Nat)} (h : Cond.codeWith y cc maxL ret hh ∈ zGW) : GoodIn zGW (zwsH y cc maxL ret hh) := by
  intro w hw
  have hm : w ∈ zGW := by
    rcases List.mem_cons.mp hw with e | e
    · rw [e]; exact h
    · exact e
  exact ⟨hm, good_of_word (zGW_good hm)⟩
def zMl (l : Launch) (y : MethodName) (ws : List Cond) (rm : Room) (D : va_G) (cy : Nat → ClassId) (B : Nat → Nat → Nat) (ids : List (Nat × Nat)) (av : List Value) (k : Int32) (z z' : St) : Prop :=
  ∀ sz : Nat, Met l y ws rm (va_Pc av (fun U => (zPre D cy B ids z sz U ∧ zXK (zAd B ids sz) U U.heap) ∧ zLK U)) (zQc D cy B ids (some (.int k)) True z' (zAd B ids sz)) rm.cells rm.slots (zAd B ids sz)
def zMlm (l : Launch) (y : MethodName) (ws : List Cond) (rm : Room) (D : va_G) (cy : Nat → ClassId) (B : Nat → Nat → Nat) (ids : List (Nat × Nat)) (av : List Value) (k : Int32) (z z' : St) (I : List (Nat × Nat)) : Prop :=
  ∀ sz : Nat, Met l y ws rm (va_Pc av (fun U => ((zPre D cy B ids z sz U ∧ zXK (zAd B ids sz) U U.heap) ∧ zLK U) ∧ zAO U)) (zQm D cy (some (.int k)) z' I B ids (zAd B ids sz)) rm.cells rm.slots (zAd B ids sz)
theorem zMl_of {l : Launch} {y : MethodName} {cc : ByteArray} {maxL : Nat} {ret : Option FieldType} {hh : List (Nat × Nat × Nat × Nat)} {rm : Room} {D : va_G} {cy : Nat → ClassId} {B : Nat → Nat → Nat} {ids : List (Nat × Nat)} {av : List Value} {k : Int32} {z z' : St} (hst : zSt B ids) (hW : zWf ids z) (hy : plainName y.cls = true) (hlen : (lg_sl av).length ≤ maxL)
    (body : ∀ (p : Program) (e : Env) (s : State) (m : MethodId) (args : Array Value) (below : List Frame) (meth : Method) (c : Code) (A : Nat → Prop) (ls : Array Slot), zFx p m c cc maxL s args y.cls D cy B ids A → (∀ q : Nat, s.heap.size ≤ q → A q) → meth.sig.returnType = ret → meth.locks = false → c.exceptionTable.toList = tableOf hh → zXK A s s.heap → zLK s → zRep D cy B ids A s.heap z s.heap [] → lv_has ls maxL (lv_args 0 av) →
      W p l e rm s m args below meth c s.heap [] 0 0 (MQ below (zQc D cy B ids (some (.int k)) True z' A) args s rm.cells rm.slots A) (F0 m 0 ls [])) : zMl l y (zwsH y cc maxL ret hh) rm D cy B ids av k z z' := by
  intro sz
  refine va_MetW (cc := cc) (maxL := maxL) (ret := ret) (hh := hh) hy rfl ?_
  intro p e s m args below meth c s₁ B' hml hv
  obtain ⟨rfl, ⟨⟨hsz, hP, hK, hN⟩, hXK⟩, hLK⟩ := hv
  have hts := atoms_spec (ws := zwsH y cc maxL ret hh) B'.pre
  have hown := findClass_of_methodNamed B'.named
  have hlocks := B'.notSynchronized
  have htab := vx_table (x := y) B' (hts _ List.mem_cons_self)
  subst hsz
  rw [lg_entry_eq]
  exact body p e s m _ below meth c (zAd B ids s.heap.size) _ ⟨B'.exec, B'.bytes, hml, hown, fun w h => hts w (List.mem_cons_of_mem _ h), hK, hN, hst.1, hst.2.1, zD_of hst _⟩ (fun q h => Or.inr h) B'.returns hlocks htab hXK hLK ⟨hP, va_S.rf, hW⟩ (lv_entry av hlen)
theorem zMlm_of {l : Launch} {y : MethodName} {cc : ByteArray} {maxL : Nat} {ret : Option FieldType} {hh : List (Nat × Nat × Nat × Nat)} {rm : Room} {D : va_G} {cy : Nat → ClassId} {B : Nat → Nat → Nat} {ids : List (Nat × Nat)} {av : List Value} {k : Int32} {z z' : St} {I : List (Nat × Nat)} (hst : zSt B ids) (hW : zWf ids z) (hy : plainName y.cls = true) (hlen : (lg_sl av).length ≤ maxL)
    (body : ∀ (p : Program) (e : Env) (s : State) (m : MethodId) (args : Array Value) (below : List Frame) (meth : Method) (c : Code) (A : Nat → Prop) (ls : Array Slot), zFx p m c cc maxL s args y.cls D cy B ids A → (∀ q : Nat, s.heap.size ≤ q → A q) → meth.sig.returnType = ret → meth.locks = false → c.exceptionTable.toList = tableOf hh → zXK A s s.heap → zLK s → zAO s → zRep D cy B ids A s.heap z s.heap [] → lv_has ls maxL (lv_args 0 av) →
      W p l e rm s m args below meth c s.heap [] 0 0 (MQ below (zQm D cy (some (.int k)) z' I B ids A) args s rm.cells rm.slots A) (F0 m 0 ls [])) : zMlm l y (zwsH y cc maxL ret hh) rm D cy B ids av k z z' I := by
  intro sz
  refine va_MetW (cc := cc) (maxL := maxL) (ret := ret) (hh := hh) hy rfl ?_
  intro p e s m args below meth c s₁ B' hml hv
  obtain ⟨rfl, ⟨⟨⟨hsz, hP, hK, hN⟩, hXK⟩, hLK⟩, hAO⟩ := hv
  have hts := atoms_spec (ws := zwsH y cc maxL ret hh) B'.pre
  have hown := findClass_of_methodNamed B'.named
  have hlocks := B'.notSynchronized
  have htab := vx_table (x := y) B' (hts _ List.mem_cons_self)
  subst hsz
  rw [lg_entry_eq]
  exact body p e s m _ below meth c (zAd B ids s.heap.size) _ ⟨B'.exec, B'.bytes, hml, hown, fun w h => hts w (List.mem_cons_of_mem _ h), hK, hN, hst.1, hst.2.1, zD_of hst _⟩ (fun q h => Or.inr h) B'.returns hlocks htab hXK hLK hAO ⟨hP, va_S.rf, hW⟩ (lv_entry av hlen)
section ZLW
variable {p : Program} {l : Launch} {e : Env} {R : Room} {s : State} {m : MethodId} {args : Array Value} {below : List Frame} {meth : Method} {c : Code} {H : Heap} {locs : List Loc} {cells slots mc ms : Nat} {Q : State → Prop}
variable {cc : ByteArray} {nL pc : Nat} {ls : Array Slot} {rest st0 : List Value} {own : String} {D : va_G} {cy : Nat → ClassId} {B : Nat → Nat → Nat} {ids I : List (Nat × Nat)} {A : Nat → Prop} {z z' : St} {k o : Nat}
theorem zAd_L (F : zFx p m c cc nL s args own D cy B ids A) (hA : ∀ q : Nat, s.heap.size ≤ q → A q) (hr : zRep D cy B ids A s.heap z H locs) : ∀ q, zAd B ids H.size q → A q := by
  intro q h
  rcases h with ⟨k, o, hm, rfl⟩ | h
  · exact zA_of F k o hm
  · exact hA q (Nat.le_trans hr.2.1.1 h)
theorem zLe_i {v : Int32} (F : zFx p m c cc nL s args own D cy B ids A) (hret : meth.sig.returnType = some .int) (hlocks : meth.locks = false) (hdg : decode cc pc = .ok (.ireturn, 1)) (hr : zRep D cy B ids A s.heap z' H locs) (hc : cells ≤ mc) (hs : slots ≤ ms) :
    W p l e R s m args below meth c H locs cells slots (MQ below (zQc D cy B ids (some (.int v)) True z' A) args s mc ms A) (F0 m pc ls [.int v]) :=
  W.widen hc hs (W.iret F.1 F.2.1 hret (fun t ht hW => ⟨⟨rfl, by rw [ht]; exact hr.1, hr.2.2, trivial⟩, hr.2.1.F ht⟩) hr.2.1.2.2 hdg hlocks)
theorem zLrunV {ρ : Type} {mk : ρ → Option Value} {X : ρ → Prop} {r : ρ ⊕ Nat} (hX : zXK A s s.heap) (hA : ∀ q : Nat, s.heap.size ≤ q → A q) {y : MethodName} {bytes : ByteArray} {maxL index : Nat} {ret : Option FieldType} {rm : Room} {As : List Value} {T : u_T} {N : Nat}
    (hl : Cond.methodLink own index y ∈ zGW) (hi : Cond.instanceMethod y ∈ zGW) (hse : Cond.selects y.cls y y ∈ zGW) (hco : Cond.code y bytes maxL ret ∈ zGW) (hin : Cond.initialized y.cls ∈ zGW) (hd : y.cls ≠ "java/lang/invoke/MethodHandle" ∧ y.cls ≠ "java/lang/invoke/VarHandle" ∧ (parseMethodDescriptor y.desc).map (fun d => d.parameters.length) = some As.length) (hk : k < 100) (hc : vwCl[k]? = some (y.cls, T, N))
    (hM : zMX l y (zws y bytes maxL ret) rm D cy B ids (.ref (B k o) :: As) mk X r z z') (F : zFx p m c cc nL s args own D cy B ids A) (hr : zRep D cy B ids A s.heap z H locs) (hm : (k, o) ∈ ids) (hls : ls.size = nL) (hstk : st0 = As.reverse ++ .ref (B k o) :: rest) (hW : (rest.map fun v => v.category).sum ≤ 8) (hdg : decode cc pc = .ok (.invokevirtual index, 3))
    (hR : rm.frames + 1 ≤ R.frames ∧ 8 + (maxL + 11) + rm.locals ≤ R.locals) (hcs : cells + rm.cells ≤ R.cells ∧ slots + rm.slots ≤ R.slots) :
    vx_Run p l e R s m args below meth c H locs cells slots rm.cells rm.slots (F0 m pc ls st0) rest (zQX D cy B ids mk X r z' (zAd B ids H.size) (Value.ref (B k o) :: As).toArray) (zXC D cy B ids r z' (zAd B ids H.size)) (zAd B ids H.size) := by
  have hAs := zAd_L F hA hr
  obtain ⟨hx, hb, hml, hown, hG, hK, hN, hnd, hcl, hD⟩ := F
  obtain ⟨q0, h0, h1⟩ := zw_at (cy := cy) (B := B) z hm
  rw [zcel_o hk] at h1
  exact vx_runV ⟨hx, hb, hml, hown, hG⟩ (hM H.size) ⟨callB_of As.length hG (zws_good hco) rfl rfl rfl (hG _ hin) (hG _ hl) hd hR, hG _ hi, hG _ hse⟩ ⟨zblindX, va_recv hK hr.1 hc h1, fun U hU hW => ⟨rfl, ⟨by rw [hU], by rw [hU]; exact hr.1, va_K.moved hW.alike hK, zNW_warm hW hN⟩, by
    rw [hU]
    exact zXK_warm hW (zXK_kept hX hr.2.1.2.1 hAs)⟩⟩ rfl rfl hls hstk (lv_room hW) hdg hcs
theorem zblindXm {av : List Value} {sz : Nat} : FrameBlind (va_Pc av (fun U => (zPre D cy B ids z sz U ∧ zXK (zAd B ids sz) U U.heap) ∧ zAO U)) := by
  intro a U g mk q
  obtain ⟨q0, ⟨⟨q1, q2, q3, q4⟩, q5⟩, q6⟩ := q
  exact ⟨q0, ⟨⟨q1, q2, va_K.moved (u := U) (U := U.calling g mk a) (Vm.Alike.refl U.vm) q3, zNW_vm (u := U) (U := U.calling g mk a) rfl q4⟩, zXK_vm (u := U) (U := U.calling g mk a) rfl q5⟩, zAO_moved (u := U) (U := U.calling g mk a) (Vm.Alike.refl U.vm) q6⟩
theorem zLrunVm {r : Int32 ⊕ Nat} (hX : zXK A s s.heap) (hAO : zAO s) (hA : ∀ q : Nat, s.heap.size ≤ q → A q) {y : MethodName} {bytes : ByteArray} {maxL index : Nat} {ret : Option FieldType} {rm : Room} {As : List Value} {T : u_T} {N : Nat}
    (hl : Cond.methodLink own index y ∈ zGW) (hi : Cond.instanceMethod y ∈ zGW) (hse : Cond.selects y.cls y y ∈ zGW) (hco : Cond.code y bytes maxL ret ∈ zGW) (hin : Cond.initialized y.cls ∈ zGW) (hd : y.cls ≠ "java/lang/invoke/MethodHandle" ∧ y.cls ≠ "java/lang/invoke/VarHandle" ∧ (parseMethodDescriptor y.desc).map (fun d => d.parameters.length) = some As.length) (hk : k < 100) (hc : vwCl[k]? = some (y.cls, T, N))
    (hM : zMXm l y (zws y bytes maxL ret) rm D cy B ids (.ref (B k o) :: As) r z z' I) (F : zFx p m c cc nL s args own D cy B ids A) (hr : zRep D cy B ids A s.heap z H locs) (hm : (k, o) ∈ ids) (hls : ls.size = nL) (hstk : st0 = As.reverse ++ .ref (B k o) :: rest) (hW : (rest.map fun v => v.category).sum ≤ 8) (hdg : decode cc pc = .ok (.invokevirtual index, 3))
    (hR : rm.frames + 1 ≤ R.frames ∧ 8 + (maxL + 11) + rm.locals ≤ R.locals) (hcs : cells + rm.cells ≤ R.cells ∧ slots + rm.slots ≤ R.slots) :
    vx_Run p l e R s m args below meth c H locs cells slots rm.cells rm.slots (F0 m pc ls st0) rest (zQXm D cy r z' I B ids (zAd B ids H.size) (Value.ref (B k o) :: As).toArray) (zXCm D cy r z' I B ids (zAd B ids H.size)) (zAd B ids H.size) := by
  have hAs := zAd_L F hA hr
  obtain ⟨hx, hb, hml, hown, hG, hK, hN, hnd, hcl, hD⟩ := F
  obtain ⟨q0, h0, h1⟩ := zw_at (cy := cy) (B := B) z hm
  rw [zcel_o hk] at h1
  exact vx_runV ⟨hx, hb, hml, hown, hG⟩ (hM H.size) ⟨callB_of As.length hG (zws_good hco) rfl rfl rfl (hG _ hin) (hG _ hl) hd hR, hG _ hi, hG _ hse⟩ ⟨zblindXm, va_recv hK hr.1 hc h1, fun U hU hW => ⟨rfl, ⟨⟨by rw [hU], by rw [hU]; exact hr.1, va_K.moved hW.alike hK, zNW_warm hW hN⟩, by
    rw [hU]
    exact zXK_warm hW (zXK_kept hX hr.2.1.2.1 hAs)⟩, zAO_moved hW.alike hAO⟩⟩ rfl rfl hls hstk (lv_room hW) hdg hcs
theorem zL_split {ρ : Type} {mk : ρ → Option Value} {X : ρ → Prop} {r : ρ ⊕ Nat} {a : Array Value} (hrun : vx_Run p l e R s m args below meth c H locs cells slots mc ms (F0 m pc ls st0) rest (zQX D cy B ids mk X r z' (zAd B ids H.size) a) (zXC D cy B ids r z' (zAd B ids H.size)) (zAd B ids H.size))
    (F : zFx p m c cc nL s args own D cy B ids A) (hA : ∀ q : Nat, s.heap.size ≤ q → A q) (hr : zRep D cy B ids A s.heap z H locs)
    (kk : ∀ (v : ρ) (H1 : Heap) (locs1 : List Loc), r = .inl v → X v → zRep D cy B ids A s.heap z' H1 locs1 → W p l e R s m args below meth c H1 locs1 (cells + mc) (slots + ms) Q (F0 m (pc + 3) ls ((mk v).toList ++ rest)))
    (kx : ∀ (k : Nat) (H1 : Heap) (locs1 : List Loc) (q9 : Addr) (ce : Cell), r = .inr k → zRep D cy B ids A s.heap z' H1 locs1 → H1[q9]? = some ce → ce.vm = .none → s.vm.findClass (zEx k) = some ce.cls → vx_W p l e R s m args below meth c H1 locs1 (cells + mc) (slots + ms) Q (F0 m pc ls rest) q9) : W p l e R s m args below meth c H locs cells slots Q (F0 m pc ls st0) := by
  have hf := zAd_L F hA hr
  intro T hT X'
  rcases hrun T hT X' with ⟨v1, st₀, t1, T', L, h0, X', hL, e1, e2, ⟨v', hv', ⟨hv, hP, hW, hXX⟩, hz, hk⟩, st⟩ | ⟨q, st₀, t1, T', L, E, ce, h0, X', hL, e1, e2, ⟨k2, hk, hE, hP, hW, hz, hk2⟩, hce, hcv, hcl, st⟩
  · cases hv
    rw [h0] at hz hk
    obtain ⟨t2, a1, b1⟩ := kk v' T'.heap (locs ++ L) hv' hXX ⟨by rw [e1]; exact hP, ⟨Nat.le_trans hr.2.1.1 (by rw [e1]; exact hz), fun q h1 h2 => by rw [e1, hk q (Nat.lt_of_lt_of_le h1 hr.2.1.1) (fun y => h2 (hf q y))]; exact hr.2.1.2.1 q h1 h2, fun q hq => by
        rcases List.mem_append.mp hq with h | h
        · exact hr.2.1.2.2 q h
        · exact hf _ (hL q h)⟩, hW⟩ T' rfl X'
    exact ⟨t2, st t2 a1, b1⟩
  · subst hE
    rw [h0] at hz hk2
    obtain ⟨t2, a1, b1⟩ := kx k2 T'.heap (locs ++ L) q ce hk ⟨by rw [e1]; exact hP, ⟨Nat.le_trans hr.2.1.1 (by rw [e1]; exact hz), fun q h1 h2 => by rw [e1, hk2 q (Nat.lt_of_lt_of_le h1 hr.2.1.1) (fun y => h2 (hf q y))]; exact hr.2.1.2.1 q h1 h2, fun q hq => by
        rcases List.mem_append.mp hq with h | h
        · exact hr.2.1.2.2 q h
        · exact hf _ (hL q h)⟩, hW⟩ (by rw [e1]; exact hce) hcv hcl T' rfl X'
    exact ⟨t2, st.trans a1, b1⟩
theorem zD_st {B1 : Nat → Nat → Nat} (hst : zSt B1 I) (hA : ∀ k o, (k, o) ∈ I → A (B1 k o)) : ∀ z2, va_D A (zw cy B1 I z2) := by
  intro z2
  have h := zD_of (cy := cy) hst 0 z2
  refine ⟨h.1, fun k q hk => ?_⟩
  simp only [zw, List.getElem?_map] at hk
  cases hx : I[k]? with
  | none => rw [hx] at hk; cases hk
  | some a =>
    rw [hx] at hk
    simp only [Option.map_some, Option.some.injEq] at hk
    subst hk
    exact hA a.1 a.2 (List.mem_of_getElem? hx)
theorem zL_splitm {r : Int32 ⊕ Nat} {a : Array Value} (hrun : vx_Run p l e R s m args below meth c H locs cells slots mc ms (F0 m pc ls st0) rest (zQXm D cy r z' I B ids (zAd B ids H.size) a) (zXCm D cy r z' I B ids (zAd B ids H.size)) (zAd B ids H.size))
    (F : zFx p m c cc nL s args own D cy B ids A) (hA : ∀ q : Nat, s.heap.size ≤ q → A q) (hr : zRep D cy B ids A s.heap z H locs)
    (kk : ∀ (v : Int32) (H1 : Heap) (locs1 : List Loc) (B1 : Nat → Nat → Nat), r = .inl v → zExt B ids B1 I → zSt B1 I → zI9 I → zFx p m c cc nL s args own D cy B1 I A → zRep D cy B1 I A s.heap z' H1 locs1 → W p l e R s m args below meth c H1 locs1 (cells + mc) (slots + ms) Q (F0 m (pc + 3) ls (.int v :: rest)))
    (kx : ∀ (k : Nat) (H1 : Heap) (locs1 : List Loc) (q9 : Addr) (ce : Cell), r = .inr k → I = ids → zRep D cy B ids A s.heap z' H1 locs1 → H1[q9]? = some ce → ce.vm = .none → s.vm.findClass (zEx k) = some ce.cls → vx_W p l e R s m args below meth c H1 locs1 (cells + mc) (slots + ms) Q (F0 m pc ls rest) q9) : W p l e R s m args below meth c H locs cells slots Q (F0 m pc ls st0) := by
  have hf := zAd_L F hA hr
  intro T hT X'
  rcases hrun T hT X' with ⟨v1, st₀, t1, T', L, h0, X', hL, e1, e2, ⟨v', hv', ⟨hv, B1, hx, hst, h9, hA1, hP, hW⟩, hz, hk⟩, st⟩ | ⟨q, st₀, t1, T', L, E, ce, h0, X', hL, e1, e2, ⟨k2, hk, hE, hI, hP, hW, hz, hk2⟩, hce, hcv, hcl, st⟩
  · cases hv
    rw [h0] at hz hk
    have hD := zD_st (cy := cy) hst (fun k o h => hf _ (hA1 k o h))
    obtain ⟨t2, a1, b1⟩ := kk v' T'.heap (locs ++ L) B1 hv' hx hst h9 (zFx_nx F hst hD) ⟨by rw [e1]; exact hP, ⟨Nat.le_trans hr.2.1.1 (by rw [e1]; exact hz), fun q h1 h2 => by rw [e1, hk q (Nat.lt_of_lt_of_le h1 hr.2.1.1) (fun y => h2 (hf q y))]; exact hr.2.1.2.1 q h1 h2, fun q hq => by
        rcases List.mem_append.mp hq with h | h
        · exact hr.2.1.2.2 q h
        · exact hf _ (hL q h)⟩, hW⟩ T' rfl X'
    exact ⟨t2, st t2 a1, b1⟩
  · subst hE
    rw [h0] at hz hk2
    obtain ⟨t2, a1, b1⟩ := kx k2 T'.heap (locs ++ L) q ce hk hI ⟨by rw [e1]; exact hP, ⟨Nat.le_trans hr.2.1.1 (by rw [e1]; exact hz), fun q h1 h2 => by rw [e1, hk2 q (Nat.lt_of_lt_of_le h1 hr.2.1.1) (fun y => h2 (hf q y))]; exact hr.2.1.2.1 q h1 h2, fun q hq => by
        rcases List.mem_append.mp hq with h | h
        · exact hr.2.1.2.2 q h
        · exact hf _ (hL q h)⟩, hW⟩ (by rw [e1]; exact hce) hcv hcl T' rfl X'
    exact ⟨t2, st.trans a1, b1⟩
/-- a helper of the law, called by the law -/
theorem zblindL {av : List Value} {sz : Nat} : FrameBlind (va_Pc av (fun U => (zPre D cy B ids z sz U ∧ zXK (zAd B ids sz) U U.heap) ∧ zLK U)) := by
  intro a U g mk q
  obtain ⟨q0, ⟨⟨q1, q2, q3, q4⟩, q5⟩, q6⟩ := q
  exact ⟨q0, ⟨⟨q1, q2, va_K.moved (u := U) (U := U.calling g mk a) (Vm.Alike.refl U.vm) q3, zNW_vm (u := U) (U := U.calling g mk a) rfl q4⟩, zXK_vm (u := U) (U := U.calling g mk a) rfl q5⟩, zLK_vm (u := U) (U := U.calling g mk a) rfl q6⟩
theorem zblindLm {av : List Value} {sz : Nat} : FrameBlind (va_Pc av (fun U => ((zPre D cy B ids z sz U ∧ zXK (zAd B ids sz) U U.heap) ∧ zLK U) ∧ zAO U)) := by
  intro a U g mk q
  obtain ⟨q0, ⟨⟨⟨q1, q2, q3, q4⟩, q5⟩, q6⟩, q7⟩ := q
  exact ⟨q0, ⟨⟨⟨q1, q2, va_K.moved (u := U) (U := U.calling g mk a) (Vm.Alike.refl U.vm) q3, zNW_vm (u := U) (U := U.calling g mk a) rfl q4⟩, zXK_vm (u := U) (U := U.calling g mk a) rfl q5⟩, zLK_vm (u := U) (U := U.calling g mk a) rfl q6⟩, zAO_moved (u := U) (U := U.calling g mk a) (Vm.Alike.refl U.vm) q7⟩
theorem zcsw {y : MethodName} {bytes : ByteArray} {maxL index : Nat} {ret : Option FieldType} {hh : List (Nat × Nat × Nat × Nat)} {rm : Room} {n : Nat} (hG : ∀ w ∈ zGW, w.before args s = true) (hl : Cond.methodLink own index y ∈ zGW) (hi : Cond.static y ∈ zGW) (hco : Cond.codeWith y bytes maxL ret hh ∈ zGW) (hin : Cond.initialized y.cls ∈ zGW) (hd : y.cls ≠ "java/lang/invoke/MethodHandle" ∧ y.cls ≠ "java/lang/invoke/VarHandle" ∧ (parseMethodDescriptor y.desc).map (fun d => d.parameters.length) = some n) (hR : rm.frames + 1 ≤ R.frames ∧ 8 + (maxL + 11) + rm.locals ≤ R.locals) :
    vx_CSW R s args own index y bytes maxL ret hh (zwsH y bytes maxL ret hh) rm rm.cells rm.slots n := by
  refine ⟨⟨rfl, rfl, hR.1, hR.2, pay_in hG (zwsH_good hco), List.mem_cons_self⟩, hG _ hco, hG _ hin, ⟨hd.1, hd.2.1⟩, fun sig h => ?_, hG _ hl, hG _ hi⟩
  have h2 := hd.2.2
  rw [h] at h2
  exact (Option.some.inj h2).symm
theorem zrun_L {y : MethodName} {bytes : ByteArray} {maxL index : Nat} {ret : Option FieldType} {hh : List (Nat × Nat × Nat × Nat)} {rm : Room} {As : List Value} {v : Int32} (hX : zXK A s s.heap) (hLK : zLK s) (hA : ∀ q : Nat, s.heap.size ≤ q → A q)
    (hl : Cond.methodLink own index y ∈ zGW) (hi : Cond.static y ∈ zGW) (hco : Cond.codeWith y bytes maxL ret hh ∈ zGW) (hin : Cond.initialized y.cls ∈ zGW) (hd : y.cls ≠ "java/lang/invoke/MethodHandle" ∧ y.cls ≠ "java/lang/invoke/VarHandle" ∧ (parseMethodDescriptor y.desc).map (fun d => d.parameters.length) = some As.length)
    (hM : zMl l y (zwsH y bytes maxL ret hh) rm D cy B ids As v z z') (F : zFx p m c cc nL s args own D cy B ids A) (hr : zRep D cy B ids A s.heap z H locs) (hls : ls.size = nL) (hstk : st0 = As.reverse ++ rest) (hW : (rest.map fun v => v.category).sum ≤ 8) (hdg : decode cc pc = .ok (.invokestatic index, 3))
    (hR : rm.frames + 1 ≤ R.frames ∧ 8 + (maxL + 11) + rm.locals ≤ R.locals) (hcs : cells + rm.cells ≤ R.cells ∧ slots + rm.slots ≤ R.slots) :
    va_Run p l e R s m args below meth c H locs cells slots rm.cells rm.slots (F0 m pc ls st0) rest (zQc D cy B ids (some (.int v)) True z' (zAd B ids H.size) As.toArray) (zAd B ids H.size) := by
  have hAs := zAd_L F hA hr
  obtain ⟨hx, hb, hml, hown, hG, hK, hN, hnd, hcl, hD⟩ := F
  exact vx_runSW ⟨hx, hb, hml, hown, hG⟩ (hM H.size) (zcsw hG hl hi hco hin hd hR) ⟨zblindL, fun U hU hW => ⟨rfl, ⟨⟨by rw [hU], by rw [hU]; exact hr.1, va_K.moved hW.alike hK, zNW_warm hW hN⟩, by
    rw [hU]
    exact zXK_warm hW (zXK_kept hX hr.2.1.2.1 hAs)⟩, zLK_warm hW hLK⟩⟩ rfl rfl hls hstk (lv_room hW) hdg hcs
theorem zrun_Lm {y : MethodName} {bytes : ByteArray} {maxL index : Nat} {ret : Option FieldType} {hh : List (Nat × Nat × Nat × Nat)} {rm : Room} {As : List Value} {v : Int32} (hX : zXK A s s.heap) (hLK : zLK s) (hAO : zAO s) (hA : ∀ q : Nat, s.heap.size ≤ q → A q)
    (hl : Cond.methodLink own index y ∈ zGW) (hi : Cond.static y ∈ zGW) (hco : Cond.codeWith y bytes maxL ret hh ∈ zGW) (hin : Cond.initialized y.cls ∈ zGW) (hd : y.cls ≠ "java/lang/invoke/MethodHandle" ∧ y.cls ≠ "java/lang/invoke/VarHandle" ∧ (parseMethodDescriptor y.desc).map (fun d => d.parameters.length) = some As.length)
    (hM : zMlm l y (zwsH y bytes maxL ret hh) rm D cy B ids As v z z' I) (F : zFx p m c cc nL s args own D cy B ids A) (hr : zRep D cy B ids A s.heap z H locs) (hls : ls.size = nL) (hstk : st0 = As.reverse ++ rest) (hW : (rest.map fun v => v.category).sum ≤ 8) (hdg : decode cc pc = .ok (.invokestatic index, 3))
    (hR : rm.frames + 1 ≤ R.frames ∧ 8 + (maxL + 11) + rm.locals ≤ R.locals) (hcs : cells + rm.cells ≤ R.cells ∧ slots + rm.slots ≤ R.slots) :
    va_Run p l e R s m args below meth c H locs cells slots rm.cells rm.slots (F0 m pc ls st0) rest (zQm D cy (some (.int v)) z' I B ids (zAd B ids H.size) As.toArray) (zAd B ids H.size) := by
  have hAs := zAd_L F hA hr
  obtain ⟨hx, hb, hml, hown, hG, hK, hN, hnd, hcl, hD⟩ := F
  exact vx_runSW ⟨hx, hb, hml, hown, hG⟩ (hM H.size) (zcsw hG hl hi hco hin hd hR) ⟨zblindLm, fun U hU hW => ⟨rfl, ⟨⟨⟨by rw [hU], by rw [hU]; exact hr.1, va_K.moved hW.alike hK, zNW_warm hW hN⟩, by
    rw [hU]
    exact zXK_warm hW (zXK_kept hX hr.2.1.2.1 hAs)⟩, zLK_warm hW hLK⟩, zAO_moved hW.alike hAO⟩⟩ rfl rfl hls hstk (lv_room hW) hdg hcs
theorem zblindm {av : List Value} {sz : Nat} : FrameBlind (va_Pc av (fun U => zPre D cy B ids z sz U ∧ zAO U)) := by
  intro a U g mk q
  obtain ⟨q0, ⟨q1, q2, q3, q4⟩, q6⟩ := q
  exact ⟨q0, ⟨q1, q2, va_K.moved (u := U) (U := U.calling g mk a) (Vm.Alike.refl U.vm) q3, zNW_vm (u := U) (U := U.calling g mk a) rfl q4⟩, zAO_moved (u := U) (U := U.calling g mk a) (Vm.Alike.refl U.vm) q6⟩
/-- a method of the reference that makes, called by the law -/
theorem zrun_Vm {y : MethodName} {bytes : ByteArray} {maxL index : Nat} {ret : Option FieldType} {rm : Room} {As : List Value} {T : u_T} {N : Nat} {v : Option Value} (hAO : zAO s)
    (hl : Cond.methodLink own index y ∈ zGW) (hi : Cond.instanceMethod y ∈ zGW) (hse : Cond.selects y.cls y y ∈ zGW) (hco : Cond.code y bytes maxL ret ∈ zGW) (hin : Cond.initialized y.cls ∈ zGW) (hd : y.cls ≠ "java/lang/invoke/MethodHandle" ∧ y.cls ≠ "java/lang/invoke/VarHandle" ∧ (parseMethodDescriptor y.desc).map (fun d => d.parameters.length) = some As.length) (hk : k < 100) (hc : vwCl[k]? = some (y.cls, T, N))
    (hM : zMm l y (zws y bytes maxL ret) rm D cy B ids (.ref (B k o) :: As) v z z' I) (F : zFx p m c cc nL s args own D cy B ids A) (hr : zRep D cy B ids A s.heap z H locs) (hm : (k, o) ∈ ids) (hls : ls.size = nL) (hstk : st0 = As.reverse ++ .ref (B k o) :: rest) (hW : (rest.map fun v => v.category).sum ≤ 8) (hdg : decode cc pc = .ok (.invokevirtual index, 3))
    (hR : rm.frames + 1 ≤ R.frames ∧ 8 + (maxL + 11) + rm.locals ≤ R.locals) (hcs : cells + rm.cells ≤ R.cells ∧ slots + rm.slots ≤ R.slots) :
    va_Run p l e R s m args below meth c H locs cells slots rm.cells rm.slots (F0 m pc ls st0) rest (zQm D cy v z' I B ids (zAd B ids H.size) (Value.ref (B k o) :: As).toArray) (zAd B ids H.size) := by
  obtain ⟨hx, hb, hml, hown, hG, hK, hN, hnd, hcl, hD⟩ := F
  obtain ⟨q0, h0, h1⟩ := zw_at (cy := cy) (B := B) z hm
  rw [zcel_o hk] at h1
  exact va_runV ⟨hx, hb, hml, hown, hG⟩ (hM H.size) ⟨callB_of As.length hG (zws_good hco) rfl rfl rfl (hG _ hin) (hG _ hl) hd hR, hG _ hi, hG _ hse⟩ ⟨zblindm, va_recv hK hr.1 hc h1, fun U hU hW => ⟨rfl, ⟨by rw [hU], by rw [hU]; exact hr.1, va_K.moved hW.alike hK, zNW_warm hW hN⟩, zAO_moved hW.alike hAO⟩⟩ rfl rfl hls hstk (lv_room hW) hdg hcs
theorem zr_callL {a : Array Value} {v : Option Value} {X : Prop} (hrun : va_Run p l e R s m args below meth c H locs cells slots mc ms (F0 m pc ls st0) rest (zQc D cy B ids v X z' (zAd B ids H.size) a) (zAd B ids H.size))
    (F : zFx p m c cc nL s args own D cy B ids A) (hA : ∀ q : Nat, s.heap.size ≤ q → A q) (hr : zRep D cy B ids A s.heap z H locs)
    (kk : ∀ (H1 : Heap) (locs1 : List Loc), zRep D cy B ids A s.heap z' H1 locs1 → W p l e R s m args below meth c H1 locs1 (cells + mc) (slots + ms) Q (F0 m (pc + 3) ls (v.toList ++ rest))) : W p l e R s m args below meth c H locs cells slots Q (F0 m pc ls st0) := by
  have hf := zAd_L F hA hr
  intro T hT X
  obtain ⟨v1, st₀, t, T', L, h0, X', hL, e1, e2, ⟨⟨hv, hP, hW, hX⟩, hz, hk⟩, st⟩ := hrun T hT X
  cases hv
  rw [h0] at hz hk
  obtain ⟨t2, a1, b1⟩ := kk T'.heap (locs ++ L) ⟨by rw [e1]; exact hP, ⟨Nat.le_trans hr.2.1.1 (by rw [e1]; exact hz), fun q h1 h2 => by rw [e1, hk q (Nat.lt_of_lt_of_le h1 hr.2.1.1) (fun y => h2 (hf q y))]; exact hr.2.1.2.1 q h1 h2, fun q hq => by
      rcases List.mem_append.mp hq with h | h
      · exact hr.2.1.2.2 q h
      · exact hf _ (hL q h)⟩, hW⟩ T' rfl X'
  exact ⟨t2, st t2 a1, b1⟩
theorem zr_callM {a : Array Value} {v : Option Value} (hrun : va_Run p l e R s m args below meth c H locs cells slots mc ms (F0 m pc ls st0) rest (zQm D cy v z' I B ids (zAd B ids H.size) a) (zAd B ids H.size))
    (F : zFx p m c cc nL s args own D cy B ids A) (hA : ∀ q : Nat, s.heap.size ≤ q → A q) (hr : zRep D cy B ids A s.heap z H locs)
    (kk : ∀ (H1 : Heap) (locs1 : List Loc) (B1 : Nat → Nat → Nat), zExt B ids B1 I → zSt B1 I → zI9 I → zFx p m c cc nL s args own D cy B1 I A → zRep D cy B1 I A s.heap z' H1 locs1 → W p l e R s m args below meth c H1 locs1 (cells + mc) (slots + ms) Q (F0 m (pc + 3) ls (v.toList ++ rest))) : W p l e R s m args below meth c H locs cells slots Q (F0 m pc ls st0) := by
  have hf := zAd_L F hA hr
  intro T hT X
  obtain ⟨v1, st₀, t, T', L, h0, X', hL, e1, e2, ⟨⟨hv, B1, hx, hst, h9, hA1, hP, hW⟩, hz, hk⟩, st⟩ := hrun T hT X
  cases hv
  rw [h0] at hz hk
  have hD := zD_st (cy := cy) hst (fun k o h => hf _ (hA1 k o h))
  obtain ⟨t2, a1, b1⟩ := kk T'.heap (locs ++ L) B1 hx hst h9 (zFx_nx F hst hD) ⟨by rw [e1]; exact hP, ⟨Nat.le_trans hr.2.1.1 (by rw [e1]; exact hz), fun q h1 h2 => by rw [e1, hk q (Nat.lt_of_lt_of_le h1 hr.2.1.1) (fun y => h2 (hf q y))]; exact hr.2.1.2.1 q h1 h2, fun q hq => by
      rcases List.mem_append.mp hq with h | h
      · exact hr.2.1.2.2 q h
      · exact hf _ (hL q h)⟩, hW⟩ T' rfl X'
  exact ⟨t2, st t2 a1, b1⟩
theorem zL_spliti {X : Int32 → Prop} {r : Int32 ⊕ Nat} {a : Array Value} (hrun : vx_Run p l e R s m args below meth c H locs cells slots mc ms (F0 m pc ls st0) rest (zQX D cy B ids (fun v => some (.int v)) X r z' (zAd B ids H.size) a) (zXC D cy B ids r z' (zAd B ids H.size)) (zAd B ids H.size))
    (F : zFx p m c cc nL s args own D cy B ids A) (hA : ∀ q : Nat, s.heap.size ≤ q → A q) (hr : zRep D cy B ids A s.heap z H locs)
    (kk : ∀ (v : Int32) (H1 : Heap) (locs1 : List Loc), r = .inl v → X v → zRep D cy B ids A s.heap z' H1 locs1 → W p l e R s m args below meth c H1 locs1 (cells + mc) (slots + ms) Q (F0 m (pc + 3) ls (.int v :: rest)))
    (kx : ∀ (k : Nat) (H1 : Heap) (locs1 : List Loc) (q9 : Addr) (ce : Cell), r = .inr k → zRep D cy B ids A s.heap z' H1 locs1 → H1[q9]? = some ce → ce.vm = .none → s.vm.findClass (zEx k) = some ce.cls → vx_W p l e R s m args below meth c H1 locs1 (cells + mc) (slots + ms) Q (F0 m pc ls rest) q9) : W p l e R s m args below meth c H locs cells slots Q (F0 m pc ls st0) := zL_split hrun F hA hr kk kx
theorem zL_splitv {X : Int32 → Prop} {r : Int32 ⊕ Nat} {a : Array Value} (hrun : vx_Run p l e R s m args below meth c H locs cells slots mc ms (F0 m pc ls st0) rest (zQX D cy B ids (fun _ => none) X r z' (zAd B ids H.size) a) (zXC D cy B ids r z' (zAd B ids H.size)) (zAd B ids H.size))
    (F : zFx p m c cc nL s args own D cy B ids A) (hA : ∀ q : Nat, s.heap.size ≤ q → A q) (hr : zRep D cy B ids A s.heap z H locs)
    (kk : ∀ (v : Int32) (H1 : Heap) (locs1 : List Loc), r = .inl v → X v → zRep D cy B ids A s.heap z' H1 locs1 → W p l e R s m args below meth c H1 locs1 (cells + mc) (slots + ms) Q (F0 m (pc + 3) ls rest))
    (kx : ∀ (k : Nat) (H1 : Heap) (locs1 : List Loc) (q9 : Addr) (ce : Cell), r = .inr k → zRep D cy B ids A s.heap z' H1 locs1 → H1[q9]? = some ce → ce.vm = .none → s.vm.findClass (zEx k) = some ce.cls → vx_W p l e R s m args below meth c H1 locs1 (cells + mc) (slots + ms) Q (F0 m pc ls rest) q9) : W p l e R s m args below meth c H locs cells slots Q (F0 m pc ls st0) := zL_split hrun F hA hr kk kx
theorem zr_callLi {a : Array Value} {v : Int32} {X : Prop} (hrun : va_Run p l e R s m args below meth c H locs cells slots mc ms (F0 m pc ls st0) rest (zQc D cy B ids (some (.int v)) X z' (zAd B ids H.size) a) (zAd B ids H.size))
    (F : zFx p m c cc nL s args own D cy B ids A) (hA : ∀ q : Nat, s.heap.size ≤ q → A q) (hr : zRep D cy B ids A s.heap z H locs)
    (kk : ∀ (H1 : Heap) (locs1 : List Loc), zRep D cy B ids A s.heap z' H1 locs1 → W p l e R s m args below meth c H1 locs1 (cells + mc) (slots + ms) Q (F0 m (pc + 3) ls (.int v :: rest))) : W p l e R s m args below meth c H locs cells slots Q (F0 m pc ls st0) := zr_callL hrun F hA hr kk
theorem zr_callMi {a : Array Value} {v : Int32} (hrun : va_Run p l e R s m args below meth c H locs cells slots mc ms (F0 m pc ls st0) rest (zQm D cy (some (.int v)) z' I B ids (zAd B ids H.size) a) (zAd B ids H.size))
    (F : zFx p m c cc nL s args own D cy B ids A) (hA : ∀ q : Nat, s.heap.size ≤ q → A q) (hr : zRep D cy B ids A s.heap z H locs)
    (kk : ∀ (H1 : Heap) (locs1 : List Loc) (B1 : Nat → Nat → Nat), zExt B ids B1 I → zSt B1 I → zI9 I → zFx p m c cc nL s args own D cy B1 I A → zRep D cy B1 I A s.heap z' H1 locs1 → W p l e R s m args below meth c H1 locs1 (cells + mc) (slots + ms) Q (F0 m (pc + 3) ls (.int v :: rest))) : W p l e R s m args below meth c H locs cells slots Q (F0 m pc ls st0) := zr_callM hrun F hA hr kk
/-- a constructor called by the law: its cell is the last -/
theorem zK_call {y : MethodName} {bytes : ByteArray} {maxL index : Nat} {rm : Room} {As : List Value} {q : Nat} {ce : va_E} {cs : va_W} {post : va_W → Prop} (hAO : zAO s)
    (hl : Cond.methodLink own index y ∈ zGW) (hnm : y.name = "<init>") (hi : Cond.instanceMethod y ∈ zGW) (hco : Cond.code y bytes maxL none ∈ zGW) (hin : Cond.initialized y.cls ∈ zGW) (hd : y.cls ≠ "java/lang/invoke/MethodHandle" ∧ y.cls ≠ "java/lang/invoke/VarHandle" ∧ (parseMethodDescriptor y.desc).map (fun d => d.parameters.length) = some As.length)
    (hM : zKM l y (zws y bytes maxL none) rm D cy (.ref q :: As) [(q, ce)] post) (F : zFk p m c cc nL s args own D cy A) (hr : zRC D cy B ids A s.heap z (cs ++ [(q, ce)]) H locs) (hls : ls.size = nL) (hstk : st0 = As.reverse ++ .ref q :: rest) (hW : (rest.map fun v => v.category).sum ≤ 8) (hdg : decode cc pc = .ok (.invokespecial index, 3))
    (hR : rm.frames + 1 ≤ R.frames ∧ 8 + (maxL + 11) + rm.locals ≤ R.locals) (hcs : cells + rm.cells ≤ R.cells ∧ slots + rm.slots ≤ R.slots)
    (kk : ∀ (H1 : Heap) (locs1 : List Loc) (cs1 : va_W), post cs1 → zRC D cy B ids A s.heap z (cs ++ cs1) H1 locs1 → W p l e R s m args below meth c H1 locs1 (cells + rm.cells) (slots + rm.slots) Q (F0 m (pc + 3) ls rest)) : W p l e R s m args below meth c H locs cells slots Q (F0 m pc ls st0) := by
  refine zK_go (rm := rm) (a := (Value.ref q :: As).toArray) ?_ F hr kk
  obtain ⟨hx, hb, hml, hown, hG, hK, hN, hA⟩ := F
  obtain ⟨hP, hD, hS, hWf⟩ := hr
  rw [← List.append_assoc] at hP hD
  have hlast : (zw cy B ids z ++ cs ++ [(q, ce)])[(zw cy B ids z ++ cs).length]? = some (q, ce) := by
    rw [List.getElem?_append_right (Nat.le_refl _), Nat.sub_self]; rfl
  have hP0 : va_P D vwCl [(q, ce)] H := fun k x h => by
    cases k with
    | zero => cases Option.some.inj h; exact hP _ _ hlast
    | succ n => cases h
  have hD0 : va_D (fun _ => True) [(q, ce)] := by
    refine ⟨fun i j x y hi hj _ => ?_, fun _ _ _ => trivial⟩
    have h1 := (List.getElem?_eq_some_iff.mp hi).1
    have h2 := (List.getElem?_eq_some_iff.mp hj).1
    simp only [List.length_cons, List.length_nil] at h1 h2
    omega
  exact va_runI ⟨hx, hb, hml, hown, hG⟩ (hM H.size) ⟨callB_of As.length hG (zws_good hco) rfl rfl rfl (hG _ hin) (hG _ hl) hd hR, hnm, hG _ hi⟩ ⟨zKblind, fun U hU hW => ⟨rfl, by rw [hU], by rw [hU]; exact hP0, va_K.moved hW.alike hK, zNW_warm hW hN, zAO_moved hW.alike hAO, hD0⟩⟩ rfl rfl hls hstk (lv_room hW) hdg hcs
end ZLW
