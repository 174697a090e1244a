/-! what a method that throws wants of the state -/
def zEx (k : Nat) : String := if k = 1 then "java/lang/IllegalArgumentException" else "java/lang/IllegalStateException"
def zIc (k : Nat) : Nat := if k = 1 then 82 else 69
def zStrs : List (Nat × String) := [(67, "there are 16 boxes"), (80, "largest is not 100 .. 1500"), (83, "delay is not 1 .. 50"), (88, "there are 24 nets"), (107, "no such box or net"), (116, "the box has no port more"), (122, "the box is on the net"), (127, "the net has 8 stations"), (147, "no such router or net"), (149, "the router is not on the net"), (151, "cost is not 1 .. 1000"), (156, "no such net"), (164, "n is not 1 .. 32"), (169, "more than 64 fates"), (174, "ticks is not 1 .. 1000"), (180, "the time would be more than 400000"), (201, "no such host"), (204, "port is not 1 .. 49999"), (206, "backlog is not 1 .. 5"), (212, "no door is free"), (218, "one listens there"), (231, "port is not 1 .. 65535"), (237, "the address is its own"), (239, "the host has no port"), (244, "no port number more"), (277, "no such host or door"), (282, "the door does not listen"), (293, "n is not 1 .. 8"), (299, "the door takes no bytes"), (327, "n is not 1 .. 2048"), (369, "the door is free or listens"), (489, "nothing can be read any more"), (346, "the door is free"), (361, "the end has closed"), (371, "the end is FREE or ABORTED"), (376, "what is not 0 .. 6"), (393, "what is not 0 .. 2"), (416, "no such router"), (429, "what is not 0 .. 7"), (437, "no such box")]
def zNames : List String := ["java/lang/RuntimeException", "java/lang/Exception"]
def zXL (k : Nat) : List Cond := vx_atS RX11 (zIc k) (zEx k) zNames
def zXR (k : Nat) : List Cond := (zXL k).filter (fun w => !goodWord w)
def zisC : Cond → Bool
  | .castable _ _ => true
  | .declares _ => true
  | _ => false
theorem zXR_is1 : ∀ w ∈ zXR 1, zisC w = true := by decide +kernel
theorem zXR_is2 : ∀ w ∈ zXR 2, zisC w = true := by decide +kernel
theorem zC_warm {w : Cond} (hw : zisC w = true) {s U : State} (hW : s.WarmedH U.vm) (h : va_Nw w s) : va_Nw w U := by
  cases w <;> first | exact va_Nw.warmC hW h | exact va_Nw.warmD hW h | cases hw
theorem zC_on {w : Cond} (hw : zisC w = true) : w.onTables = true := by
  cases w <;> first | rfl | cases hw
def zXK (A : Nat → Prop) (U : State) (H : Heap) : Prop := (∀ q ∈ zStrs, ∃ sa, vk_R RX11 q.1 q.2 sa U) ∧ vx_Zq Bundle.tN "UNASSIGNED_STACK" Bundle.steD A U H ∧ vx_Zq Bundle.tN "SUPPRESSED_SENTINEL" Bundle.listD A U H ∧ (∀ w ∈ zXR 1, va_Nw w U) ∧ (∀ w ∈ zXR 2, va_Nw w U)
theorem zXK_warm {A : Nat → Prop} {s U : State} {H : Heap} (hW : s.WarmedH U.vm) (h : zXK A s H) : zXK A U H := by
  obtain ⟨h1, h2, h3, h4, h5⟩ := h
  refine ⟨fun q hq => ?_, vx_Zq.moved hW.alike h2, vx_Zq.moved hW.alike h3, fun w hw => zC_warm (zXR_is1 w hw) hW (h4 w hw), fun w hw => zC_warm (zXR_is2 w hw) hW (h5 w hw)⟩
  obtain ⟨sa, hs⟩ := h1 q hq
  exact ⟨sa, vk_R.warm hW hs⟩
theorem zXK_vm {A : Nat → Prop} {u U : State} {H : Heap} (hv : u.vm = U.vm) (h : zXK A u H) : zXK A U H := by
  obtain ⟨h1, h2, h3, h4, h5⟩ := h
  have hal : u.vm.Alike U.vm := by rw [hv]; exact Vm.Alike.refl _
  refine ⟨fun q hq => ?_, vx_Zq.moved hal h2, vx_Zq.moved hal h3, fun w hw => va_Nw.same (zC_on (zXR_is1 w hw)) hv (h4 w hw), fun w hw => va_Nw.same (zC_on (zXR_is2 w hw)) hv (h5 w hw)⟩
  obtain ⟨sa, hs⟩ := h1 q hq
  exact ⟨sa, vk_R.same hv.symm hs⟩
theorem zXK_kept {A B1 : Nat → Prop} {U : State} {H H1 : Heap} (h : zXK A U H) (hq : ∀ a : Nat, a < H.size → ¬ A a → H1[a]? = H[a]?) (hB : ∀ q, B1 q → A q) : zXK B1 U H1 := by
  obtain ⟨h1, h2, h3, h4, h5⟩ := h
  exact ⟨h1, (h2.kept hq).narrow hB, (h3.kept hq).narrow hB, h4, h5⟩
theorem zXL_good1 : ∀ w ∈ (zXL 1).filter goodWord, w ∈ zGW := zin_r [5, 357, 366, 369, 372, 374, 358, 359, 35, 36, 360, 365, 370, 390, 347, 391, 349, 392, 351, 361, 363, 353, 386, 387, 389, 353, 881, 882, 883, 380, 380, 381, 382, 383, 383, 384, 385, 386, 880, 871, 873, 368, 874, 875, 876, 877, 356, 355, 878] (by decide +kernel) (by decide +kernel)
theorem zXL_good2 : ∀ w ∈ (zXL 2).filter goodWord, w ∈ zGW := zin_r [5, 357, 366, 369, 372, 374, 358, 359, 35, 36, 360, 365, 370, 390, 347, 391, 349, 392, 351, 361, 363, 353, 386, 387, 389, 353, 377, 378, 379, 380, 380, 381, 382, 383, 383, 384, 385, 386, 376, 336, 344, 345, 346, 348, 350, 352, 356, 355, 354] (by decide +kernel) (by decide +kernel)
theorem zXL_at {args : Array Value} {s : State} {A : Nat → Prop} {H : Heap} (hG : ∀ w ∈ zGW, w.before args s = true) (h : zXK A s H) (k : Nat) (hk : k = 1 ∨ k = 2) : ∀ w ∈ zXL k, w.before args s = true := by
  rcases hk with rfl | rfl
  · exact vx_hat (fun w hw => hG w (zXL_good1 w hw)) (fun w hw => hw) (fun w hw => va_Nw.use (zC_on (zXR_is1 w hw)) (h.2.2.2.1 w hw))
  · exact vx_hat (fun w hw => hG w (zXL_good2 w hw)) (fun w hw => hw) (fun w hw => va_Nw.use (zC_on (zXR_is2 w hw)) (h.2.2.2.2 w hw))
theorem zXL_ot1 : ∀ ik : Nat, ∀ w ∈ Cond.classLink RX11 ik (zEx 1) :: Cond.initialized (zEx 1) :: zXL 1, vx_ot w = true := by
  intro ik w hw
  rcases List.mem_cons.mp hw with e | hw
  · rw [e]; rfl
  · exact (show ∀ w ∈ Cond.initialized (zEx 1) :: zXL 1, vx_ot w = true from by decide +kernel) w hw
theorem zXL_ot2 : ∀ ik : Nat, ∀ w ∈ Cond.classLink RX11 ik (zEx 2) :: Cond.initialized (zEx 2) :: zXL 2, vx_ot w = true := by
  intro ik w hw
  rcases List.mem_cons.mp hw with e | hw
  · rw [e]; rfl
  · exact (show ∀ w ∈ Cond.initialized (zEx 2) :: zXL 2, vx_ot w = true from by decide +kernel) w hw
/-! contracts of methods that may throw: r is .inl of the answer, or .inr of the exception's number -/
def zQX {ρ : Type} (D : va_G) (cy : Nat → ClassId) (B : Nat → Nat → Nat) (ids : List (Nat × Nat)) (mk : ρ → Option Value) (X : ρ → Prop) (r : ρ ⊕ Nat) (z' : St) (A1 : Nat → Prop) : Array Value → State → Outcome → State → Prop := fun a st o t => ∃ v, r = .inl v ∧ zQc D cy B ids (mk v) (X v) z' A1 a st o t
def zXC {ρ : Type} (D : va_G) (cy : Nat → ClassId) (B : Nat → Nat → Nat) (ids : List (Nat × Nat)) (r : ρ ⊕ Nat) (z' : St) (A1 : Nat → Prop) : String → State → State → Prop := fun E st t => ∃ k, r = .inr k ∧ E = zEx k ∧ va_P D vwCl (zw cy B ids z') t.heap ∧ zWf ids z' ∧ va_F A1 st t
def zMX {ρ : Type} (l : Launch) (y : MethodName) (ws : List Cond) (rm : Room) (D : va_G) (cy : Nat → ClassId) (B : Nat → Nat → Nat) (ids : List (Nat × Nat)) (av : List Value) (mk : ρ → Option Value) (X : ρ → Prop) (r : ρ ⊕ Nat) (z z' : St) : Prop :=
  ∀ sz : Nat, vx_Met l y ws rm (va_Pc av (fun U => zPre D cy B ids z sz U ∧ zXK (zAd B ids sz) U U.heap)) (zQX D cy B ids mk X r z' (zAd B ids sz)) (zXC D cy B ids r z' (zAd B ids sz)) rm.cells rm.slots (zAd B ids sz)
theorem zMX_of {ρ : Type} {l : Launch} {y : MethodName} {cc : ByteArray} {maxL : Nat} {ret : Option FieldType} {rm : Room} {D : va_G} {cy : Nat → ClassId} {B : Nat → Nat → Nat} {ids : List (Nat × Nat)} {av : List Value} {mk : ρ → Option Value} {X : ρ → Prop} {r : ρ ⊕ Nat} {z z' : St} (hst : zSt B ids) (hW : zWf ids z) (hy : plainName y.cls = true) (hlen : (lg_sl av).length ≤ maxL)
    (body : ∀ (p : Program) (e : Env) (s : State) (m : MethodId) (args : Array Value) (below : List Frame) (meth : Method) (c : Code) (A : Nat → Prop) (ls : Array Slot), zFx p m c cc maxL s args y.cls D cy B ids A → (∀ q : Nat, s.heap.size ≤ q → A q) → (∀ q, zAd B ids s.heap.size q ↔ A q) → meth.sig.returnType = ret → meth.locks = false → (∀ x ∈ c.exceptionTable.toList, False) → zXK A s s.heap → zRep D cy B ids A s.heap z s.heap [] → lv_has ls maxL (lv_args 0 av) →
      W p l e rm s m args below meth c s.heap [] 0 0 (vx_MQ below (zQX D cy B ids mk X r z' A) (zXC D cy B ids r z' A) args s rm.cells rm.slots A) (F0 m 0 ls [])) : zMX l y (zws y cc maxL ret) rm D cy B ids av mk X r z z' := by
  intro sz
  refine vx_ofW (cc := cc) (maxL := maxL) (ret := ret) hy rfl ?_
  intro p e s m args below meth c s₁ B' hml htab hv
  obtain ⟨rfl, ⟨hsz, hP, hK, hN⟩, hXK⟩ := hv
  have hts := atoms_spec (ws := zws y cc maxL ret) B'.pre
  have hown := findClass_of_methodNamed B'.named
  have hlocks := B'.notSynchronized
  subst hsz
  rw [lg_entry_eq]
  exact body p e s m _ below meth c (zAd B ids s.heap.size) _ ⟨B'.exec, B'.bytes, hml, hown, fun w h => hts w (List.mem_cons_of_mem _ h), hK, hN, hst.1, hst.2.1, zD_of hst _⟩ (fun q h => Or.inr h) (fun q => Iff.rfl) B'.returns hlocks htab hXK ⟨hP, va_S.rf, hW⟩ (lv_entry av hlen)
section ZX
variable {p : Program} {l : Launch} {e : Env} {R : Room} {s : State} {m : MethodId} {args : Array Value} {below : List Frame} {meth : Method} {c : Code} {H : Heap} {locs : List Loc} {cells slots mc ms : Nat} {Q : State → Prop}
variable {cc : ByteArray} {nL pc : Nat} {ls : Array Slot} {rest st0 : List Value} {own : String} {D : va_G} {cy : Nat → ClassId} {B : Nat → Nat → Nat} {ids : List (Nat × Nat)} {A : Nat → Prop} {z z' : St} {k o : Nat}
/-- a normal end of a method that may throw -/
theorem zXe_i {v : Int32} (F : zFx p m c cc nL s args own D cy B ids A) (hret : meth.sig.returnType = some .int) (hlocks : meth.locks = false) (hdg : decode cc pc = .ok (.ireturn, 1)) (hr : zRep D cy B ids A s.heap z' H locs) (hc : cells ≤ mc) (hs : slots ≤ ms) :
    W p l e R s m args below meth c H locs cells slots (vx_MQ below (zQX D cy B ids (fun v => some (.int v)) (fun _ => True) (.inl v) z' A) (zXC D cy B ids (.inl v : Int32 ⊕ Nat) z' A) args s mc ms A) (F0 m pc ls [.int v]) :=
  vx_ret (W.widen hc hs (W.iret F.1 F.2.1 hret (fun t ht hW => ⟨v, rfl, ⟨rfl, by rw [ht]; exact hr.1, hr.2.2, trivial⟩, hr.2.1.F ht⟩) hr.2.1.2.2 hdg hlocks))
theorem zXe_z {v : Int32} (F : zFx p m c cc nL s args own D cy B ids A) (hret : meth.sig.returnType = some .boolean) (hlocks : meth.locks = false) (hdg : decode cc pc = .ok (.ireturn, 1)) (hn : v = 0 ∨ v = 1) (hr : zRep D cy B ids A s.heap z' H locs) (hc : cells ≤ mc) (hs : slots ≤ ms) :
    W p l e R s m args below meth c H locs cells slots (vx_MQ below (zQX D cy B ids (fun v => some (.int v)) (fun v => v = 0 ∨ v = 1) (.inl v) z' A) (zXC D cy B ids (.inl v : Int32 ⊕ Nat) z' A) args s mc ms A) (F0 m pc ls [.int v]) :=
  vx_ret (W.widen hc hs (W.zret F.1 F.2.1 hret (znar_o hn) (fun t ht hW => ⟨v, rfl, ⟨rfl, by rw [ht]; exact hr.1, hr.2.2, hn⟩, hr.2.1.F ht⟩) hr.2.1.2.2 hdg hlocks))
theorem zXe_v {v : Int32} (F : zFx p m c cc nL s args own D cy B ids A) (hret : meth.sig.returnType = none) (hlocks : meth.locks = false) (hdg : decode cc pc = .ok (.return_, 1)) (hr : zRep D cy B ids A s.heap z' H locs) (hc : cells ≤ mc) (hs : slots ≤ ms) :
    W p l e R s m args below meth c H locs cells slots (vx_MQ below (zQX D cy B ids (fun _ => none) (fun _ => True) (.inl v) z' A) (zXC D cy B ids (.inl v : Int32 ⊕ Nat) z' A) args s mc ms A) (F0 m pc ls []) :=
  vx_ret (W.widen hc hs (W.vret F.1 F.2.1 hret (fun t ht hW => ⟨v, rfl, ⟨rfl, by rw [ht]; exact hr.1, hr.2.2, trivial⟩, hr.2.1.F ht⟩) hr.2.1.2.2 hdg hlocks))
theorem zXe_r {x : Option Nat} {t : Nat} {C : String} (F : zFx p m c cc nL s args own D cy B ids A) (hret : meth.sig.returnType = some (.object C)) (hlocks : meth.locks = false) (hdg : decode cc pc = .ok (.areturn, 1)) (hn : ∀ i, x = some i → (t, i) ∈ ids) (hr : zRep D cy B ids A s.heap z' H locs) (hc : cells ≤ mc) (hs : slots ≤ ms) :
    W p l e R s m args below meth c H locs cells slots (vx_MQ below (zQX D cy B ids (fun x => some (va_rf (x.map (B t)))) (fun x => ∀ i, x = some i → (t, i) ∈ ids) (.inl x) z' A) (zXC D cy B ids (.inl x : Option Nat ⊕ Nat) z' A) args s mc ms A) (F0 m pc ls [va_rf (x.map (B t))]) :=
  vx_ret (W.widen hc hs (W.aret F.1 F.2.1 hret (Or.inl ⟨_, rfl⟩) (by cases x with | none => exact Or.inl rfl | some a => exact Or.inr ⟨_, rfl⟩) (fun t ht hW => ⟨x, rfl, ⟨rfl, by rw [ht]; exact hr.1, hr.2.2, hn⟩, hr.2.1.F ht⟩) hr.2.1.2.2 hdg hlocks))
theorem zva_P_le {D : va_G} {cl : List vw_C} {ws : va_W} {H H1 : Heap} (hP : va_P D cl ws H) (hq : ∀ q : Nat, q < H.size → H1[q]? = H[q]?) : va_P D cl ws H1 := fun k q hk => (hP k q hk).kept (hq q.1 (hP k q hk).lt)
/-- new, dup, ldc, its constructor, athrow -/
theorem zXt {ρ : Type} {mk : ρ → Option Value} {X : ρ → Prop} {ik is : Nat} {text : String} (hl : l.stackTraces = false) (F : zFx p m c cc nL s args RX11 D cy B ids A) (htab : ∀ x ∈ c.exceptionTable.toList, False) (hX : zXK A s s.heap) (hlocks : meth.locks = false) (hsize : ls.size = nL) (hk : k = 1 ∨ k = 2) (hcl : Cond.classLink RX11 ik (zEx k) ∈ zGW) (hin : Cond.initialized (zEx k) ∈ zGW) (hstr : (is, text) ∈ zStrs)
    (d0 : decode cc pc = .ok (.new ik, 3)) (d3 : decode cc (pc + 3) = .ok (.dup, 1)) (d4 : decode cc (pc + 4) = .ok (.ldc is, 2)) (d6 : decode cc (pc + 6) = .ok (.invokespecial (zIc k), 3)) (d9 : decode cc (pc + 9) = .ok (.athrow, 1))
    (hRf : 6 ≤ R.frames) (hRl : 100 ≤ R.locals) (hRc : cells + 1 ≤ R.cells) (hRs : slots + 6 ≤ R.slots) (hr : zRep D cy B ids A s.heap z' H locs) (hc : cells + 1 ≤ mc) (hs : slots + 6 ≤ ms) :
    W p l e R s m args below meth c H locs cells slots (vx_MQ below (zQX D cy B ids mk X (.inr k) z' A) (zXC D cy B ids (.inr k : ρ ⊕ Nat) z' A) args s mc ms A) (F0 m pc ls []) := by
  obtain ⟨hx, hb, hml, hown, hG, hK, hN, hnd, hcl0, hD⟩ := F
  obtain ⟨sa, hsa⟩ := hX.1 _ hstr
  have hot : ∀ w ∈ Cond.classLink RX11 ik (zEx k) :: Cond.initialized (zEx k) :: vx_atS RX11 (zIc k) (zEx k) zNames, vx_ot w = true := by
    rcases hk with rfl | rfl
    · exact zXL_ot1 ik
    · exact zXL_ot2 ik
  refine vx_throwS (names := zNames) (A := A) hx hb hl hown ?_ (by decide +kernel) (hG _ hcl) (hG _ hin) hsa (zXL_at hG hX k hk) hot hX.2.1 hX.2.2.1 hr.2.1 (hsize.trans hml.symm) d0 d3 d4 d6 d9 (fun x hx => (htab x hx).elim) ?_ ?_ hRc hRs hlocks ?_ hr.2.1.2.2 hc hs
  · rcases hk with rfl | rfl <;> decide +kernel
  · show 2 + 3 < R.frames
    omega
  · show 0 + (13 * (2 + 1) + 43) ≤ R.locals
    omega
  · intro t hal hsz hq
    exact ⟨k, rfl, rfl, zva_P_le hr.1 hq, hr.2.2, Nat.le_trans hr.2.1.1 hsz, fun q h1 h2 => by rw [hq q (Nat.lt_of_lt_of_le h1 hr.2.1.1)]; exact hr.2.1.2.1 q h1 h2⟩
theorem zXtw {ρ : Type} {mk : ρ → Option Value} {X : ρ → Prop} {ik is : Nat} {text : String} (hl : l.stackTraces = false) (F : zFx p m c cc nL s args RX11 D cy B ids A) (htab : ∀ x ∈ c.exceptionTable.toList, False) (hX : zXK A s s.heap) (hlocks : meth.locks = false) (hsize : ls.size = nL) (hk : k = 1 ∨ k = 2) (hcl : Cond.classLink RX11 ik (zEx k) ∈ zGW) (hin : Cond.initialized (zEx k) ∈ zGW) (hstr : (is, text) ∈ zStrs)
    (d0 : decode cc pc = .ok (.new ik, 3)) (d3 : decode cc (pc + 3) = .ok (.dup, 1)) (d4 : decode cc (pc + 4) = .ok (.ldc_w is, 3)) (d7 : decode cc (pc + 7) = .ok (.invokespecial (zIc k), 3)) (d10 : decode cc (pc + 10) = .ok (.athrow, 1))
    (hRf : 6 ≤ R.frames) (hRl : 100 ≤ R.locals) (hRc : cells + 1 ≤ R.cells) (hRs : slots + 6 ≤ R.slots) (hr : zRep D cy B ids A s.heap z' H locs) (hc : cells + 1 ≤ mc) (hs : slots + 6 ≤ ms) :
    W p l e R s m args below meth c H locs cells slots (vx_MQ below (zQX D cy B ids mk X (.inr k) z' A) (zXC D cy B ids (.inr k : ρ ⊕ Nat) z' A) args s mc ms A) (F0 m pc ls []) := by
  obtain ⟨hx, hb, hml, hown, hG, hK, hN, hnd, hcl0, hD⟩ := F
  obtain ⟨sa, hsa⟩ := hX.1 _ hstr
  have hot : ∀ w ∈ Cond.classLink RX11 ik (zEx k) :: Cond.initialized (zEx k) :: vx_atS RX11 (zIc k) (zEx k) zNames, vx_ot w = true := by
    rcases hk with rfl | rfl
    · exact zXL_ot1 ik
    · exact zXL_ot2 ik
  refine vx_throwSW (names := zNames) (A := A) hx hb hl hown ?_ (by decide +kernel) (hG _ hcl) (hG _ hin) hsa (zXL_at hG hX k hk) hot hX.2.1 hX.2.2.1 hr.2.1 (hsize.trans hml.symm) d0 d3 d4 d7 d10 (fun x hx => (htab x hx).elim) ?_ ?_ hRc hRs hlocks ?_ hr.2.1.2.2 hc hs
  · rcases hk with rfl | rfl <;> decide +kernel
  · show 2 + 3 < R.frames
    omega
  · show 0 + (13 * (2 + 1) + 43) ≤ R.locals
    omega
  · intro t hal hsz hq
    exact ⟨k, rfl, rfl, zva_P_le hr.1 hq, hr.2.2, Nat.le_trans hr.2.1.1 hsz, fun q h1 h2 => by rw [hq q (Nat.lt_of_lt_of_le h1 hr.2.1.1)]; exact hr.2.1.2.1 q h1 h2⟩
theorem zcs_0 {a b X Y : Nat} (h : a + 1 ≤ X ∧ b + 6 ≤ Y) : a ≤ X ∧ b ≤ Y := ⟨by omega, by omega⟩
theorem zcs_2 {a b X Y : Nat} (h : a + 2 ≤ X ∧ b + 12 ≤ Y) : a + 1 ≤ X ∧ b + 6 ≤ Y := ⟨by omega, by omega⟩
theorem zcs_down {a b X Y : Nat} (h : a + 2 ≤ X ∧ b + 12 ≤ Y) : (a + 1) + 1 ≤ X ∧ (b + 6) + 6 ≤ Y := ⟨by omega, by omega⟩
def zcx {α β : Type} (x : Option ((α ⊕ Nat) × St)) (k : α → St → Option ((β ⊕ Nat) × St)) : Option ((β ⊕ Nat) × St) := match x with
  | some (.inl a, z) => k a z
  | some (.inr e, z) => some (.inr e, z)
  | none => none
theorem zcx_some {α β : Type} {x : Option ((α ⊕ Nat) × St)} {k : α → St → Option ((β ⊕ Nat) × St)} {y : (β ⊕ Nat) × St} (h : zcx x k = some y) : (∃ a z, x = some (.inl a, z) ∧ k a z = some y) ∨ (∃ (e : Nat) (z : St), x = some (.inr e, z) ∧ some ((.inr e : β ⊕ Nat), z) = some y) := by
  match x, h with
  | some (.inl a, z), h => exact Or.inl ⟨a, z, rfl, h⟩
  | some (.inr e, z), h => exact Or.inr ⟨e, z, rfl, h⟩
  | none, h => cases h
theorem zblindX {av : List Value} {sz : Nat} : FrameBlind (va_Pc av (fun U => zPre D cy B ids z sz U ∧ zXK (zAd B ids sz) U U.heap)) := by
  intro a U g mk q
  obtain ⟨q0, ⟨q1, q2, q3, q4⟩, q5⟩ := q
  exact ⟨q0, ⟨q1, q2, va_K.moved (u := U) (U := U.calling g mk a) (Vm.Alike.refl U.vm) q3, zNW_vm (u := U) (U := U.calling g mk a) rfl q4⟩, zXK_vm (u := U) (U := U.calling g mk a) rfl q5⟩
theorem zAd_sub (F : zFx p m c cc nL s args own D cy B ids A) (hAd : ∀ q, zAd B ids s.heap.size q ↔ A q) (hr : zRep D cy B ids A s.heap z H locs) : ∀ q, zAd B ids H.size q → A q := by
  intro q h
  rw [← hAd]
  rcases h with h | h
  · exact Or.inl h
  · exact Or.inr (Nat.le_trans hr.2.1.1 h)
theorem zXrunV {ρ : Type} {mk : ρ → Option Value} {X : ρ → Prop} {r : ρ ⊕ Nat} (hX : zXK A s s.heap) (hAd : ∀ q, zAd B ids s.heap.size q ↔ A q) {y : MethodName} {bytes : ByteArray} {maxL index : Nat} {ret : Option FieldType} {rm : Room} {As : List Value} {T : u_T} {N : Nat}
    (hl : Cond.methodLink own index y ∈ zGW) (hi : Cond.instanceMethod y ∈ zGW) (hse : Cond.selects y.cls y y ∈ zGW) (hco : Cond.code y bytes maxL ret ∈ zGW) (hin : Cond.initialized y.cls ∈ zGW) (hd : y.cls ≠ "java/lang/invoke/MethodHandle" ∧ y.cls ≠ "java/lang/invoke/VarHandle" ∧ (parseMethodDescriptor y.desc).map (fun d => d.parameters.length) = some As.length) (hk : k < 100) (hc : vwCl[k]? = some (y.cls, T, N))
    (hM : zMX l y (zws y bytes maxL ret) rm D cy B ids (.ref (B k o) :: As) mk X r z z') (F : zFx p m c cc nL s args own D cy B ids A) (hr : zRep D cy B ids A s.heap z H locs) (hm : (k, o) ∈ ids) (hls : ls.size = nL) (hstk : st0 = As.reverse ++ .ref (B k o) :: rest) (hW : (rest.map fun v => v.category).sum ≤ 8) (hdg : decode cc pc = .ok (.invokevirtual index, 3))
    (hrc : rm.cells = 1) (hrs : rm.slots = 6) (hR : rm.frames + 1 ≤ R.frames ∧ 8 + (maxL + 11) + rm.locals ≤ R.locals) (hcs : cells + 2 ≤ R.cells ∧ slots + 12 ≤ R.slots) :
    vx_Run p l e R s m args below meth c H locs cells slots 1 6 (F0 m pc ls st0) rest (zQX D cy B ids mk X r z' (zAd B ids H.size) (Value.ref (B k o) :: As).toArray) (zXC D cy B ids r z' (zAd B ids H.size)) (zAd B ids H.size) := by
  have hAs := zAd_sub F hAd hr
  obtain ⟨hx, hb, hml, hown, hG, hK, hN, hnd, hcl, hD⟩ := F
  obtain ⟨q0, h0, h1⟩ := zw_at (cy := cy) (B := B) z hm
  rw [zcel_o hk] at h1
  have hM2 := hM H.size
  rw [hrc, hrs] at hM2
  exact vx_runV ⟨hx, hb, hml, hown, hG⟩ hM2 ⟨callB_of As.length hG (zws_good hco) rfl hrc hrs (hG _ hin) (hG _ hl) hd hR, hG _ hi, hG _ hse⟩ ⟨zblindX, va_recv hK hr.1 hc h1, fun U hU hW => ⟨rfl, ⟨by rw [hU], by rw [hU]; exact hr.1, va_K.moved hW.alike hK, zNW_warm hW hN⟩, by
    rw [hU]
    exact zXK_warm hW (zXK_kept hX hr.2.1.2.1 hAs)⟩⟩ rfl rfl hls hstk (lv_room hW) hdg ⟨by omega, by omega⟩
theorem zX_callr {t : Nat} {X : Option Nat → Prop} {x : Option Nat} {a : Array Value} (hrun : vx_Run p l e R s m args below meth c H locs cells slots 1 6 (F0 m pc ls st0) rest (zQX D cy B ids (fun x => some (va_rf (x.map (B t)))) X (.inl x) z' (zAd B ids H.size) a) (zXC D cy B ids (.inl x : Option Nat ⊕ Nat) z' (zAd B ids H.size)) (zAd B ids H.size))
    (F : zFx p m c cc nL s args own D cy B ids A) (hAd : ∀ q, zAd B ids s.heap.size q ↔ A q) (hr : zRep D cy B ids A s.heap z H locs)
    (kk : ∀ (H1 : Heap) (locs1 : List Loc), X x → zRep D cy B ids A s.heap z' H1 locs1 → W p l e R s m args below meth c H1 locs1 (cells + 1) (slots + 6) Q (F0 m (pc + 3) ls (va_rf (x.map (B t)) :: rest))) : W p l e R s m args below meth c H locs cells slots Q (F0 m pc ls st0) := by
  have hf := zAd_sub F hAd hr
  intro T hT X'
  rcases hrun T hT X' with ⟨v1, st₀, t1, T', L, h0, X', hL, e1, e2, ⟨v', hv', ⟨hv, hP, hW, hXX⟩, hz, hk⟩, st⟩ | ⟨q, st₀, t1, T', L, E, ce, h0, X', hL, e1, e2, ⟨k2, hk, -⟩, -⟩
  · cases hv'
    cases hv
    rw [h0] at hz hk
    obtain ⟨t2, a1, b1⟩ := kk T'.heap (locs ++ L) hXX ⟨by rw [e1]; exact hP, ⟨Nat.le_trans hr.2.1.1 (by rw [e1]; exact hz), fun q h1 h2 => by rw [e1, hk q (Nat.lt_of_lt_of_le h1 hr.2.1.1) (fun y => h2 (hf q y))]; exact hr.2.1.2.1 q h1 h2, fun q hq => by
        rcases List.mem_append.mp hq with h | h
        · exact hr.2.1.2.2 q h
        · exact hf _ (hL q h)⟩, hW⟩ T' rfl X'
    exact ⟨t2, st t2 a1, b1⟩
  · cases hk
theorem zX_prop {ρ ρ' : Type} {mk : ρ → Option Value} {X : ρ → Prop} {mk' : ρ' → Option Value} {X2 : ρ' → Prop} {e0 : Nat} {a : Array Value} (hrun : vx_Run p l e R s m args below meth c H locs cells slots 1 6 (F0 m pc ls st0) rest (zQX D cy B ids mk X (.inr e0) z' (zAd B ids H.size) a) (zXC D cy B ids (.inr e0 : ρ ⊕ Nat) z' (zAd B ids H.size)) (zAd B ids H.size))
    (F : zFx p m c cc nL s args own D cy B ids A) (hAd : ∀ q, zAd B ids s.heap.size q ↔ A q) (htab : ∀ x ∈ c.exceptionTable.toList, False) (hlocks : meth.locks = false) (hr : zRep D cy B ids A s.heap z H locs) (hc : cells + 2 ≤ mc) (hs : slots + 12 ≤ ms) :
    W p l e R s m args below meth c H locs cells slots (vx_MQ below (zQX D cy B ids mk' X2 (.inr e0) z' A) (zXC D cy B ids (.inr e0 : ρ' ⊕ Nat) z' A) args s mc ms A) (F0 m pc ls st0) := by
  have hf := zAd_sub F hAd hr
  intro T hT X'
  rcases hrun T hT X' with ⟨v1, st₀, t1, T', L, h0, X', hL, e1, e2, ⟨v', hv', -⟩, -⟩ | ⟨q, st₀, t1, T', L, E, ce, h0, X', hL, e1, e2, ⟨k2, hk, hE, hP, hW, hz, hk2⟩, hce, hcv, hcl, st⟩
  · cases hv'
  · cases hk
    subst hE
    rw [h0] at hz hk2
    obtain ⟨t2, a1, b1⟩ := vx_out (Qc := zQX D cy B ids mk' X2 (.inr e0) z' A) (XC := zXC D cy B ids (.inr e0 : ρ' ⊕ Nat) z' A) (free := A) (mc := mc) (ms := ms) (ls := ls) (rest := rest) (pc := pc) (H := T'.heap) (locs := locs ++ L) (E := zEx e0) (ce := ce) (q := q) (cells := cells + 1) (slots := slots + 6) (fun x hx => (htab x hx).elim) hlocks (by rw [e1]; exact hce) hcv hcl
      (fun t ht hal => ⟨e0, rfl, rfl, by rw [ht, e1]; exact hP, hW, by rw [ht, e1]; exact Nat.le_trans hr.2.1.1 hz, fun q h1 h2 => by rw [ht, e1, hk2 q (Nat.lt_of_lt_of_le h1 hr.2.1.1) (fun y => h2 (hf q y))]; exact hr.2.1.2.1 q h1 h2⟩)
      (fun q hq => by
        rcases List.mem_append.mp hq with h | h
        · exact hr.2.1.2.2 q h
        · exact hf _ (hL q h)) (by omega) (by omega) T' rfl X'
    exact ⟨t2, st.trans a1, b1⟩
end ZX

