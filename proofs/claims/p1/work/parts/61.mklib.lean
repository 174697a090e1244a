/-! methods that make objects: names grow as they go -/
def zExt (B0 : Nat → Nat → Nat) (ids0 : List (Nat × Nat)) (B : Nat → Nat → Nat) (ids : List (Nat × Nat)) : Prop := ∀ k o, (k, o) ∈ ids0 → (k, o) ∈ ids ∧ B k o = B0 k o
theorem zExt_rf (B : Nat → Nat → Nat) (ids : List (Nat × Nat)) : zExt B ids B ids := fun _ _ h => ⟨h, rfl⟩
theorem zExt_nx {B0 B B1 : Nat → Nat → Nat} {ids0 ids ids1 : List (Nat × Nat)} (h : zExt B0 ids0 B ids) (hB : ∀ k o, (k, o) ∈ ids → B1 k o = B k o) (hi : ∀ k o, (k, o) ∈ ids → (k, o) ∈ ids1) : zExt B0 ids0 B1 ids1 := fun k o hm => ⟨hi k o (h k o hm).1, (hB k o (h k o hm).1).trans (h k o hm).2⟩
theorem zmapB {B B1 : Nat → Nat → Nat} {ids : List (Nat × Nat)} (hB : ∀ k o, (k, o) ∈ ids → B1 k o = B k o) {k : Nat} {y : Option Nat} (hy : ∀ t, y = some t → (k, t) ∈ ids) : Option.map (B1 k) y = Option.map (B k) y := by
  cases y with
  | none => rfl
  | some t => rw [Option.map_some, Option.map_some, hB k t (hy t rfl)]
def zQm (D : va_G) (cy : Nat → ClassId) (v : Option Value) (z' : St) (I : List (Nat × Nat)) (B : Nat → Nat → Nat) (ids : List (Nat × Nat)) (A1 : Nat → Prop) : Array Value → State → Outcome → State → Prop := fun _ st oc t => (oc = .returned v ∧ ∃ B1 : Nat → Nat → Nat, zExt B ids B1 I ∧ zSt B1 I ∧ zI9 I ∧ (∀ k o, (k, o) ∈ I → A1 (B1 k o)) ∧ va_P D vwCl (zw cy B1 I z') t.heap ∧ zWf I z') ∧ va_F A1 st t
def zMm (l : Launch) (y : MethodName) (ws : List Cond) (rm : Room) (D : va_G) (cy : Nat → ClassId) (B : Nat → Nat → Nat) (ids : List (Nat × Nat)) (av : List Value) (v : Option Value) (z z' : St) (I : List (Nat × Nat)) : Prop :=
  ∀ sz : Nat, Met l y ws rm (va_Pc av (fun U => zPre D cy B ids z sz U ∧ zAO U)) (zQm D cy v z' I B ids (zAd B ids sz)) rm.cells rm.slots (zAd B ids sz)
def zQXm (D : va_G) (cy : Nat → ClassId) (r : Int32 ⊕ Nat) (z' : St) (I : List (Nat × Nat)) (B : Nat → Nat → Nat) (ids : List (Nat × Nat)) (A1 : Nat → Prop) : Array Value → State → Outcome → State → Prop := fun a st o t => ∃ v, r = .inl v ∧ zQm D cy (some (.int v)) z' I B ids A1 a st o t
def zXCm (D : va_G) (cy : Nat → ClassId) (r : Int32 ⊕ Nat) (z' : St) (I : List (Nat × Nat)) (B : Nat → Nat → Nat) (ids : List (Nat × Nat)) (A1 : Nat → Prop) : String → State → State → Prop := fun E st t => ∃ k, r = .inr k ∧ E = zEx k ∧ I = ids ∧ va_P D vwCl (zw cy B ids z') t.heap ∧ zWf ids z' ∧ va_F A1 st t
def zMXm (l : Launch) (y : MethodName) (ws : List Cond) (rm : Room) (D : va_G) (cy : Nat → ClassId) (B : Nat → Nat → Nat) (ids : List (Nat × Nat)) (av : List Value) (r : Int32 ⊕ Nat) (z z' : St) (I : List (Nat × Nat)) : Prop :=
  ∀ sz : Nat, vx_Met l y ws rm (va_Pc av (fun U => (zPre D cy B ids z sz U ∧ zXK (zAd B ids sz) U U.heap) ∧ zAO U)) (zQXm D cy r z' I B ids (zAd B ids sz)) (zXCm D cy r z' I B ids (zAd B ids sz)) rm.cells rm.slots (zAd B ids sz)
theorem zMm_of {l : Launch} {y : MethodName} {cc : ByteArray} {maxL : Nat} {ret : Option FieldType} {rm : Room} {D : va_G} {cy : Nat → ClassId} {B : Nat → Nat → Nat} {ids : List (Nat × Nat)} {av : List Value} {v : Option Value} {z z' : St} {I : List (Nat × Nat)} (hst : zSt B ids) (hW : zWf ids z) (hy : plainName y.cls = true) (hlen : (lg_sl av).length ≤ maxL)
    (body : ∀ (p : Program) (e : Env) (s : State) (m : MethodId) (args : Array Value) (below : List Frame) (meth : Method) (c : Code) (A : Nat → Prop) (ls : Array Slot), zFx p m c cc maxL s args y.cls D cy B ids A → (∀ q : Nat, s.heap.size ≤ q → A q) → meth.sig.returnType = ret → meth.locks = false → zAO s → zRep D cy B ids A s.heap z s.heap [] → lv_has ls maxL (lv_args 0 av) →
      W p l e rm s m args below meth c s.heap [] 0 0 (MQ below (zQm D cy v z' I B ids A) args s rm.cells rm.slots A) (F0 m 0 ls [])) : zMm l y (zws y cc maxL ret) rm D cy B ids av v z z' I := by
  intro sz
  refine Met.ofW (cc := cc) (maxL := maxL) (ret := ret) hy rfl ?_
  intro p e s m args below meth c s₁ B' hml hv
  obtain ⟨rfl, ⟨hsz, hP, hK, hN⟩, hAO⟩ := hv
  have hts := atoms_spec (ws := zws y cc maxL ret) B'.pre
  have hown := findClass_of_methodNamed B'.named
  have hlocks := B'.notSynchronized
  subst hsz
  rw [lg_entry_eq]
  exact body p e s m _ below meth c (zAd B ids s.heap.size) _ ⟨B'.exec, B'.bytes, hml, hown, fun w h => hts w (List.mem_cons_of_mem _ h), hK, hN, hst.1, hst.2.1, zD_of hst _⟩ (fun q h => Or.inr h) B'.returns hlocks hAO ⟨hP, va_S.rf, hW⟩ (lv_entry av hlen)
theorem zMXm_of {l : Launch} {y : MethodName} {cc : ByteArray} {maxL : Nat} {ret : Option FieldType} {rm : Room} {D : va_G} {cy : Nat → ClassId} {B : Nat → Nat → Nat} {ids : List (Nat × Nat)} {av : List Value} {r : Int32 ⊕ Nat} {z z' : St} {I : List (Nat × Nat)} (hst : zSt B ids) (hW : zWf ids z) (hy : plainName y.cls = true) (hlen : (lg_sl av).length ≤ maxL)
    (body : ∀ (p : Program) (e : Env) (s : State) (m : MethodId) (args : Array Value) (below : List Frame) (meth : Method) (c : Code) (A : Nat → Prop) (ls : Array Slot), zFx p m c cc maxL s args y.cls D cy B ids A → (∀ q : Nat, s.heap.size ≤ q → A q) → meth.sig.returnType = ret → meth.locks = false → (∀ x ∈ c.exceptionTable.toList, False) → zXK A s s.heap → zAO s → zRep D cy B ids A s.heap z s.heap [] → lv_has ls maxL (lv_args 0 av) →
      W p l e rm s m args below meth c s.heap [] 0 0 (vx_MQ below (zQXm D cy r z' I B ids A) (zXCm D cy r z' I B ids A) args s rm.cells rm.slots A) (F0 m 0 ls [])) : zMXm l y (zws y cc maxL ret) rm D cy B ids av r z z' I := by
  intro sz
  refine vx_ofW (cc := cc) (maxL := maxL) (ret := ret) hy rfl ?_
  intro p e s m args below meth c s₁ B' hml htab hv
  obtain ⟨rfl, ⟨⟨hsz, hP, hK, hN⟩, hXK⟩, hAO⟩ := hv
  have hts := atoms_spec (ws := zws y cc maxL ret) B'.pre
  have hown := findClass_of_methodNamed B'.named
  have hlocks := B'.notSynchronized
  subst hsz
  rw [lg_entry_eq]
  exact body p e s m _ below meth c (zAd B ids s.heap.size) _ ⟨B'.exec, B'.bytes, hml, hown, fun w h => hts w (List.mem_cons_of_mem _ h), hK, hN, hst.1, hst.2.1, zD_of hst _⟩ (fun q h => Or.inr h) B'.returns hlocks htab hXK hAO ⟨hP, va_S.rf, hW⟩ (lv_entry av hlen)
section ZMK
variable {p : Program} {l : Launch} {e : Env} {R : Room} {s : State} {m : MethodId} {args : Array Value} {below : List Frame} {meth : Method} {c : Code} {H : Heap} {locs : List Loc} {cells slots mc ms : Nat} {Q : State → Prop}
variable {cc : ByteArray} {nL pc : Nat} {ls : Array Slot} {rest : List Value} {own : String} {D : va_G} {cy : Nat → ClassId} {B B1 : Nat → Nat → Nat} {ids I : List (Nat × Nat)} {A : Nat → Prop} {z z' : St} {cs : va_W}
theorem zFx_k (F : zFx p m c cc nL s args own D cy B ids A) (hA : ∀ q : Nat, s.heap.size ≤ q → A q) : zFk p m c cc nL s args own D cy A := by
  obtain ⟨hx, hb, hml, hown, hG, hK, hN, hnd, hcl, hD⟩ := F
  exact ⟨hx, hb, hml, hown, hG, hK, hN, hA⟩
theorem zFk_x (F : zFk p m c cc nL s args own D cy A) (hst : zSt B1 I) (hD : ∀ z2, va_D A (zw cy B1 I z2)) : zFx p m c cc nL s args own D cy B1 I A := by
  obtain ⟨hx, hb, hml, hown, hG, hK, hN, hA⟩ := F
  exact ⟨hx, hb, hml, hown, hG, hK, hN, hst.1, hst.2.1, hD⟩
theorem zFx_nx (F : zFx p m c cc nL s args own D cy B ids A) (hst : zSt B1 I) (hD : ∀ z2, va_D A (zw cy B1 I z2)) : zFx p m c cc nL s args own D cy B1 I A := by
  obtain ⟨hx, hb, hml, hown, hG, hK, hN, -⟩ := F
  exact ⟨hx, hb, hml, hown, hG, hK, hN, hst.1, hst.2.1, hD⟩
theorem zRC_of (F : zFx p m c cc nL s args own D cy B ids A) (hr : zRep D cy B ids A s.heap z H locs) : zRC D cy B ids A s.heap z [] H locs := by
  obtain ⟨hx, hb, hml, hown, hG, hK, hN, hnd, hcl, hD⟩ := F
  refine ⟨by rw [List.append_nil]; exact hr.1, by rw [List.append_nil]; exact hD z, hr.2.1, hr.2.2⟩
theorem zRC_rep {H0 : Heap} (hr : zRC D cy B ids A H0 z cs H locs) : zRep D cy B ids A H0 z H locs := by
  refine ⟨fun k q hk => hr.1 k q ?_, hr.2.2.1, hr.2.2.2⟩
  rw [List.getElem?_append_left (List.getElem?_eq_some_iff.mp hk).1]
  exact hk
theorem zA_of (F : zFx p m c cc nL s args own D cy B ids A) : ∀ k o, (k, o) ∈ ids → A (B k o) := fun k o h => by
  obtain ⟨q0, -, h1⟩ := zw_at (cy := cy) (B := B) zz0 h
  exact (F.2.2.2.2.2.2.2.2.2 zz0).2 q0 _ h1
theorem zme_i {v : Int32} (F : zFx p m c cc nL s args own D cy B1 I A) (hx : zExt B ids B1 I) (hst : zSt B1 I) (h9 : zI9 I) (hret : meth.sig.returnType = some .int) (hlocks : meth.locks = false) (hdg : decode cc pc = .ok (.ireturn, 1)) (hr : zRep D cy B1 I A s.heap z' H locs) (hc : cells ≤ mc) (hs : slots ≤ ms) :
    W p l e R s m args below meth c H locs cells slots (MQ below (zQm D cy (some (.int v)) z' I B ids A) args s mc ms A) (F0 m pc ls [.int v]) :=
  W.widen hc hs (W.iret F.1 F.2.1 hret (fun t ht hW => ⟨⟨rfl, B1, hx, hst, h9, zA_of F, by rw [ht]; exact hr.1, hr.2.2⟩, hr.2.1.F ht⟩) hr.2.1.2.2 hdg hlocks)
theorem zXme_i {v : Int32} (F : zFx p m c cc nL s args own D cy B1 I A) (hx : zExt B ids B1 I) (hst : zSt B1 I) (h9 : zI9 I) (hret : meth.sig.returnType = some .int) (hlocks : meth.locks = false) (hdg : decode cc pc = .ok (.ireturn, 1)) (hr : zRep D cy B1 I A s.heap z' H locs) (hc : cells ≤ mc) (hs : slots ≤ ms) :
    W p l e R s m args below meth c H locs cells slots (vx_MQ below (zQXm D cy (.inl v) z' I B ids A) (zXCm D cy (.inl v) z' I B ids A) args s mc ms A) (F0 m pc ls [.int v]) :=
  vx_ret (W.widen hc hs (W.iret F.1 F.2.1 hret (fun t ht hW => ⟨v, rfl, ⟨rfl, B1, hx, hst, h9, zA_of F, by rw [ht]; exact hr.1, hr.2.2⟩, hr.2.1.F ht⟩) hr.2.1.2.2 hdg hlocks))
theorem zXtm {k ik is : Nat} {text : String} (hl : l.stackTraces = false) (F : zFx p m c cc nL s args RX11 D cy B ids A) (htab : ∀ x ∈ c.exceptionTable.toList, False) (hX : zXK A s s.heap) (hlocks : meth.locks = false) (hsize : ls.size = nL) (hk : k = 1 ∨ k = 2) (hcl : Cond.classLink RX11 ik (zEx k) ∈ zGW) (hin : Cond.initialized (zEx k) ∈ zGW) (hstr : (is, text) ∈ zStrs)
    (d0 : decode cc pc = .ok (.new ik, 3)) (d3 : decode cc (pc + 3) = .ok (.dup, 1)) (d4 : decode cc (pc + 4) = .ok (.ldc is, 2)) (d6 : decode cc (pc + 6) = .ok (.invokespecial (zIc k), 3)) (d9 : decode cc (pc + 9) = .ok (.athrow, 1))
    (hRf : 6 ≤ R.frames) (hRl : 100 ≤ R.locals) (hRc : cells + 1 ≤ R.cells) (hRs : slots + 6 ≤ R.slots) (hr : zRep D cy B ids A s.heap z' H locs) (hc : cells + 1 ≤ mc) (hs : slots + 6 ≤ ms) :
    W p l e R s m args below meth c H locs cells slots (vx_MQ below (zQXm D cy (.inr k) z' ids B ids A) (zXCm D cy (.inr k) z' ids B ids A) args s mc ms A) (F0 m pc ls []) := by
  obtain ⟨hx, hb, hml, hown, hG, hK, hN, hnd, hcl0, hD⟩ := F
  obtain ⟨sa, hsa⟩ := hX.1 _ hstr
  have hot : ∀ w ∈ Cond.classLink RX11 ik (zEx k) :: Cond.initialized (zEx k) :: vx_atS RX11 (zIc k) (zEx k) zNames, vx_ot w = true := by
    rcases hk with rfl | rfl
    · exact zXL_ot1 ik
    · exact zXL_ot2 ik
  refine vx_throwS (names := zNames) (A := A) hx hb hl hown ?_ (by decide +kernel) (hG _ hcl) (hG _ hin) hsa (zXL_at hG hX k hk) hot hX.2.1 hX.2.2.1 hr.2.1 (hsize.trans hml.symm) d0 d3 d4 d6 d9 (fun x hx => (htab x hx).elim) ?_ ?_ hRc hRs hlocks ?_ hr.2.1.2.2 hc hs
  · rcases hk with rfl | rfl <;> decide +kernel
  · show 2 + 3 < R.frames
    omega
  · show 0 + (13 * (2 + 1) + 43) ≤ R.locals
    omega
  · intro t hal hsz hq
    exact ⟨k, rfl, rfl, rfl, zva_P_le hr.1 hq, hr.2.2, Nat.le_trans hr.2.1.1 hsz, fun q h1 h2 => by rw [hq q (Nat.lt_of_lt_of_le h1 hr.2.1.1)]; exact hr.2.1.2.1 q h1 h2⟩
theorem zKRblind {av : List Value} {ro c0 : va_W} {sz : Nat} : FrameBlind (va_Pc av (fun U => U.heap.size = sz ∧ va_P D vwCl ro U.heap ∧ (∀ x ∈ ro, ¬ va_A c0 sz x.1) ∧ va_P D vwCl c0 U.heap ∧ va_K D vwCl (zty cy) U ∧ zNW U ∧ zAO U ∧ va_D (fun _ => True) c0)) := by
  intro a U g mk q
  obtain ⟨q0, q1, q2, q3, q4, q5, q6, q7, q8⟩ := q
  exact ⟨q0, q1, q2, q3, q4, va_K.moved (u := U) (U := U.calling g mk a) (Vm.Alike.refl U.vm) q5, zNW_vm (u := U) (U := U.calling g mk a) rfl q6, zAO_moved (u := U) (U := U.calling g mk a) (Vm.Alike.refl U.vm) q7, q8⟩
/-- a private constructor of a nest mate that reads one object of the world -/
theorem zK_callRN {y : MethodName} {bytes : ByteArray} {maxL index : Nat} {rm : Room} {host : String} {As st0 : List Value} {q k o : Nat} {ce : va_E} {post : va_W → Prop} (hAO : zAO s)
    (hl : Cond.methodLinkNest own index y host ∈ zNL) (hnm : y.name = "<init>") (hi : Cond.instanceMethod y ∈ zGW) (hco : Cond.code y bytes maxL none ∈ zGW) (hin : Cond.initialized y.cls ∈ zGW) (hd : y.cls ≠ "java/lang/invoke/MethodHandle" ∧ y.cls ≠ "java/lang/invoke/VarHandle" ∧ (parseMethodDescriptor y.desc).map (fun d => d.parameters.length) = some As.length)
    (hm : (k, o) ∈ ids) (hM : zKR l y (zws y bytes maxL none) rm D cy (.ref q :: As) [(B k o, zcel cy B z (k, o))] [(q, ce)] post) (F : zFk p m c cc nL s args own D cy A) (hr : zRC D cy B ids A s.heap z ([] ++ [(q, ce)]) H locs) (hls : ls.size = nL) (hstk : st0 = As.reverse ++ .ref q :: rest) (hW : (rest.map fun v => v.category).sum ≤ 8) (hdg : decode cc pc = .ok (.invokespecial index, 3))
    (hR : rm.frames + 1 ≤ R.frames ∧ 8 + (maxL + 11) + rm.locals ≤ R.locals) (hcs : cells + rm.cells ≤ R.cells ∧ slots + rm.slots ≤ R.slots)
    (kk : ∀ (H1 : Heap) (locs1 : List Loc) (cs1 : va_W), post cs1 → zRC D cy B ids A s.heap z ([] ++ cs1) H1 locs1 → W p l e R s m args below meth c H1 locs1 (cells + rm.cells) (slots + rm.slots) Q (F0 m (pc + 3) ls rest)) : W p l e R s m args below meth c H locs cells slots Q (F0 m pc ls st0) := by
  refine zK_go (rm := rm) (a := (Value.ref q :: As).toArray) ?_ F hr kk
  obtain ⟨hx, hb, hml, hown, hG, hK, hN, hA⟩ := F
  obtain ⟨hP, hD, hS, hWf⟩ := hr
  rw [← List.append_assoc, List.append_nil] at hP hD
  have hlast : (zw cy B ids z ++ [(q, ce)])[(zw cy B ids z).length]? = some (q, ce) := by
    rw [List.getElem?_append_right (Nat.le_refl _), Nat.sub_self]; rfl
  have hP0 : va_P D vwCl [(q, ce)] H := fun k x h => by
    cases k with
    | zero => cases Option.some.inj h; exact hP _ _ hlast
    | succ n => cases h
  have hD0 : va_D (fun _ => True) [(q, ce)] := by
    refine ⟨fun i j x y hi hj _ => ?_, fun _ _ _ => trivial⟩
    have h1 := (List.getElem?_eq_some_iff.mp hi).1
    have h2 := (List.getElem?_eq_some_iff.mp hj).1
    simp only [List.length_cons, List.length_nil] at h1 h2
    omega
  obtain ⟨q0, hq0, hq1⟩ := zw_at (cy := cy) (B := B) z hm
  have hlt0 : q0 < (zw cy B ids z).length := (List.getElem?_eq_some_iff.mp hq1).1
  have hq2 : (zw cy B ids z ++ [(q, ce)])[q0]? = some (B k o, zcel cy B z (k, o)) := by
    rw [List.getElem?_append_left hlt0]; exact hq1
  have hro : va_P D vwCl [(B k o, zcel cy B z (k, o))] H := fun j x h => by
    cases j with
    | zero => cases Option.some.inj h; exact hP _ _ hq2
    | succ n => cases h
  have hna : ∀ x ∈ [(B k o, zcel cy B z (k, o))], ¬ va_A [(q, ce)] H.size x.1 := by
    intro x hx hv
    rw [List.mem_singleton] at hx
    subst hx
    rcases hv with ⟨k', e', h'⟩ | h'
    · have he : B k o = q := by
        cases k' with
        | zero => exact (congrArg Prod.fst (Option.some.inj h')).symm
        | succ n => cases h'
      have := hD.1 q0 _ _ _ hq2 hlast he
      omega
    · have := (hP _ _ hq2).lt
      have h2 : H.size ≤ B k o := h'
      have h3 : B k o < H.size := this
      omega
  exact va_runIN ⟨hx, hb, hml, hown, hG⟩ (hM H.size) ⟨va_cnB As.length hG (zws_good hco) rfl rfl rfl (hN _ hl) (hG _ hin) hd hR, hnm, hG _ hi⟩ ⟨zKRblind, fun U hU hW => ⟨rfl, by rw [hU], by rw [hU]; exact hro, hna, by rw [hU]; exact hP0, va_K.moved hW.alike hK, zNW_warm hW hN, zAO_moved hW.alike hAO, hD0⟩⟩ rfl rfl hls hstk (lv_room hW) hdg hcs
end ZMK
