/-! contracts of constructors that make no other object: the world is the new object's cell alone -/
def zAOL : List String := ["WholeInternet$Port", "WholeInternet$Parcel", "WholeInternet$Door", "WholeInternet$Net", "WholeInternet$Box", "WholeInternetModel$Port", "WholeInternetModel$Pieces", "WholeInternetModel$Neighbour", "WholeInternetModel$Door", "WholeInternetModel$Box", "WholeInternetModel$Net"]
def zA2 (ty : FieldType) (U : State) : Prop := (Cond.arrayOver (.array ty)).before #[] U = true
theorem zidx_bare (vm : Vm) (comp : ClassId) : (vm.bare.classes.findIdx? fun (x : Class) => match x.kind with | .array component _ => component == comp | _ => false) = (vm.classes.findIdx? fun (x : Class) => match x.kind with | .array component _ => component == comp | _ => false) := by
  simp only [Vm.bare, Array.findIdx?_map]
  rfl
theorem zA2_key (f g : Nat → Option Bool) (o o' : Option Nat) (h : o = o') (h2 : ∀ c, o = some c → f c = g c) : (o.bind f == some true) = (o'.bind g == some true) := by
  subst h
  cases o with
  | none => rfl
  | some c => rw [Option.bind_some, Option.bind_some, h2 c rfl]
theorem zA2_moved {ty : FieldType} {u U : State} (hvm : u.vm.Alike U.vm) (h : zA2 ty u) : zA2 ty U := by
  unfold zA2 Cond.before Cond.holds at h ⊢
  simp only [Cond.value] at h ⊢
  simp only [hvm.findClass]
  refine Eq.trans ?_ h
  cases hc : u.vm.findClass (FieldType.array ty).toString with
  | none => rfl
  | some comp =>
    simp only [Option.bind_some]
    have hidx : (U.vm.classes.findIdx? fun (x : Class) => match x.kind with | .array component _ => component == comp | _ => false) = (u.vm.classes.findIdx? fun (x : Class) => match x.kind with | .array component _ => component == comp | _ => false) := by
      refine (zidx_bare U.vm comp).symm.trans (Eq.trans ?_ (zidx_bare u.vm comp))
      first | rw [hvm.bare_eq] | rw [← hvm.bare_eq]
    refine zA2_key _ _ _ _ hidx (fun c hi => ?_)
    obtain ⟨hlt, -⟩ := Array.findIdx?_eq_some_iff_getElem.mp (hidx.symm.trans hi)
    obtain ⟨k', hk', he⟩ := hvm.2.2 c _ (Array.getElem?_eq_getElem hlt)
    rw [hk', Array.getElem?_eq_getElem hlt, Option.map_some, Option.map_some, he]
def zAO (U : State) : Prop := (∀ C ∈ zAOL, va_AO C U) ∧ zA2 .int U ∧ zA2 .long U
theorem zAO_moved {u U : State} (hvm : u.vm.Alike U.vm) (h : zAO u) : zAO U := ⟨fun C hC => va_AO.moved hvm (h.1 C hC), zA2_moved hvm h.2.1, zA2_moved hvm h.2.2⟩
def zz0 : St := (fun _ _ _ => 0, fun _ _ _ => none, fun _ _ _ => 0, fun _ _ _ => 0, fun _ _ _ => none)
theorem zWf_0 : zWf [] zz0 := ⟨fun _ _ _ _ h => absurd h List.not_mem_nil, fun _ _ _ _ h => absurd h List.not_mem_nil, fun _ _ _ _ => rfl⟩
def zKQ (D : va_G) (post : va_W → Prop) (A : Nat → Prop) : Array Value → State → Outcome → State → Prop := fun _ st oc t => (oc = .returned none ∧ ∃ cs, post cs ∧ va_P D vwCl cs t.heap ∧ va_D A cs) ∧ va_F A st t
def zKM (l : Launch) (y : MethodName) (ws : List Cond) (rm : Room) (D : va_G) (cy : Nat → ClassId) (av : List Value) (c0 : va_W) (post : va_W → Prop) : Prop :=
  ∀ sz : Nat, Met l y ws rm (va_Pc av (fun U => U.heap.size = sz ∧ va_P D vwCl c0 U.heap ∧ va_K D vwCl (zty cy) U ∧ zNW U ∧ zAO U ∧ va_D (fun _ => True) c0)) (zKQ D post (va_A c0 sz)) rm.cells rm.slots (va_A c0 sz)
theorem zKM_of {l : Launch} {y : MethodName} {cc : ByteArray} {maxL : Nat} {rm : Room} {D : va_G} {cy : Nat → ClassId} {av : List Value} {c0 : va_W} {post : va_W → Prop} (hy : plainName y.cls = true) (hi : y.name = "<init>") (hlen : (lg_sl av).length ≤ maxL)
    (body : ∀ (p : Program) (e : Env) (s : State) (m : MethodId) (args : Array Value) (below : List Frame) (meth : Method) (c : Code) (A : Nat → Prop) (ls : Array Slot), zFk p m c cc maxL s args y.cls D cy A → zAO s → meth.name = "<init>" → meth.sig.returnType = none → meth.locks = false → zRC D cy (fun _ _ => 0) [] A s.heap zz0 c0 s.heap [] → lv_has ls maxL (lv_args 0 av) →
      W p l e rm s m args below meth c s.heap [] 0 0 (MQ below (zKQ D post A) args s rm.cells rm.slots A) (F0 m 0 ls [])) : zKM l y (zws y cc maxL none) rm D cy av c0 post := by
  intro sz
  refine Met.ofW (cc := cc) (maxL := maxL) (ret := none) hy rfl ?_
  intro p e s m args below meth c s₁ B' hml hv
  obtain ⟨rfl, hsz, hP, hK, hN, hAO, hD⟩ := hv
  have hts := atoms_spec (ws := zws y cc maxL none) B'.pre
  have hown := findClass_of_methodNamed B'.named
  have hlocks := B'.notSynchronized
  have hnm : meth.name = "<init>" := hi ▸ (name_of_methodNamed B'.named B'.method).1
  subst hsz
  rw [lg_entry_eq]
  exact body p e s m _ below meth c (va_A c0 s.heap.size) _ ⟨B'.exec, B'.bytes, hml, hown, fun w h => hts w (List.mem_cons_of_mem _ h), hK, hN, fun q h => Or.inr h⟩ hAO hnm B'.returns hlocks ⟨hP, hD.self (sz := s.heap.size), va_S.rf, zWf_0⟩ (lv_entry av hlen)
section ZKE
variable {p : Program} {l : Launch} {e : Env} {R : Room} {s : State} {m : MethodId} {args : Array Value} {below : List Frame} {meth : Method} {c : Code} {H : Heap} {locs : List Loc} {cells slots mc ms : Nat} {Q : State → Prop}
variable {cc : ByteArray} {nL pc : Nat} {ls : Array Slot} {rest : List Value} {own : String} {D : va_G} {cy : Nat → ClassId} {A : Nat → Prop} {cs : va_W} {post : va_W → Prop}
theorem zK_ret (F : zFk p m c cc nL s args own D cy A) (hret : meth.sig.returnType = none) (hlocks : meth.locks = false) (hdg : decode cc pc = .ok (.return_, 1)) (hr : zRC D cy (fun _ _ => 0) [] A s.heap zz0 cs H locs) (hp : post cs) (hc : cells ≤ mc) (hs : slots ≤ ms) :
    W p l e R s m args below meth c H locs cells slots (MQ below (zKQ D post A) args s mc ms A) (F0 m pc ls []) :=
  W.widen hc hs (W.vret F.1 F.2.1 hret (fun t ht hW => ⟨⟨rfl, cs, hp, by rw [ht]; exact hr.1, hr.2.1⟩, hr.2.2.1.F ht⟩) hr.2.2.1.2.2 hdg hlocks)
theorem zK_obj {idx : Nat} {a : Nat} (hl : Cond.methodLink own idx objectInit ∈ zGW) (hi : Cond.instanceMethod objectInit ∈ zGW) (hc : Cond.code objectInit ⟨#[0xb1]⟩ 1 none ∈ zGW) (F : zFk p m c cc nL s args own D cy A) (hls : ls.size = nL) (hdg : decode cc pc = .ok (.invokespecial idx, 3)) (hframes : 1 ≤ R.frames) (hlocals : 12 ≤ R.locals)
    (kk : W p l e R s m args below meth c H locs cells slots Q (F0 m (pc + 3) ls [])) : W p l e R s m args below meth c H locs cells slots Q (F0 m pc ls [.ref a]) := by
  obtain ⟨hx, hb, hml, hown, hG, hK, hN, hA⟩ := F
  exact W.objInit hx hb hown (hG _ hl) (hG _ hi) (hG _ hc) rfl (by rw [hml]; exact hls) rfl hdg hframes hlocals kk
end ZKE
theorem zarr_byte (cA : ClassId) (n : Nat) : vp_cell cA (n, .inl (fun _ => 0)) = arrV cA n (fun _ => defaultValue .byte) := by first | rfl | (rw [vp_cell_i]; rfl)
theorem zarr_int (cA : ClassId) (n : Nat) : vp_cell cA (n, .inl (fun _ => 0)) = arrV cA n (fun _ => defaultValue .int) := by first | rfl | (rw [vp_cell_i]; rfl)
theorem zarr_boolean (cA : ClassId) (n : Nat) : vp_cell cA (n, .inl (fun _ => 0)) = arrV cA n (fun _ => defaultValue .boolean) := by first | rfl | (rw [vp_cell_i]; rfl)
theorem zarr_l (cA : ClassId) (n : Nat) : vp_cell cA (n, .inr (.inl (fun _ => 0))) = arrV cA n (fun _ => defaultValue .long) := by first | rfl | (rw [vp_cell_l]; rfl)
theorem zq_139 : Cond.arrayClass .byte ∈ zGW := zmem 139 (by decide +kernel) (by decide +kernel)
theorem zq_143 : Cond.code yX5_init cX5_init 2 none ∈ zGW := zmem 143 (by decide +kernel) (by decide +kernel)
theorem zq_144 : Cond.methodLink RX5 3 objectInit ∈ zGW := zmem 144 (by decide +kernel) (by decide +kernel)
theorem zq_145 : Cond.classLink RX5 19 "WholeInternet$Port" ∈ zGW := zmem 145 (by decide +kernel) (by decide +kernel)
theorem zq_154 : Cond.fieldLink RX5 9 "WholeInternet$Net" "up" "Z" ∈ zGW := zmem 154 (by decide +kernel) (by decide +kernel)
theorem zq_192 : Cond.arrayClass .int ∈ zGW := zmem 192 (by decide +kernel) (by decide +kernel)
theorem zq_1993 : Cond.code yX12_init cX12_init 1 none ∈ zGW := zmem 1993 (by decide +kernel) (by decide +kernel)
theorem zq_1994 : Cond.methodLink RX12 3 objectInit ∈ zGW := zmem 1994 (by decide +kernel) (by decide +kernel)
theorem zq_1995 : Cond.classLink RX12 9 "WholeInternetModel$Port" ∈ zGW := zmem 1995 (by decide +kernel) (by decide +kernel)
theorem zq_1997 : Cond.classLink RX12 17 "WholeInternetModel$Pieces" ∈ zGW := zmem 1997 (by decide +kernel) (by decide +kernel)
theorem zq_1999 : Cond.classLink RX12 23 "WholeInternetModel$Neighbour" ∈ zGW := zmem 1999 (by decide +kernel) (by decide +kernel)
theorem zq_2001 : Cond.constant RX12 36 (-1000000) ∈ zGW := zmem 2001 (by decide +kernel) (by decide +kernel)
theorem zq_2002 : Cond.classLink RX12 66 "WholeInternetModel$Door" ∈ zGW := zmem 2002 (by decide +kernel) (by decide +kernel)
theorem zq_2006 : Cond.fieldLink RX12 11 "WholeInternetModel$Box" "ports" "[LWholeInternetModel$Port;" ∈ zGW := zmem 2006 (by decide +kernel) (by decide +kernel)
theorem zq_2015 : Cond.fieldLink RX12 19 "WholeInternetModel$Box" "pieces" "[LWholeInternetModel$Pieces;" ∈ zGW := zmem 2015 (by decide +kernel) (by decide +kernel)
theorem zq_2018 : Cond.fieldLink RX12 25 "WholeInternetModel$Box" "neighbours" "[LWholeInternetModel$Neighbour;" ∈ zGW := zmem 2018 (by decide +kernel) (by decide +kernel)
theorem zq_2021 : Cond.fieldLink RX12 29 "WholeInternetModel$Box" "base" "[I" ∈ zGW := zmem 2021 (by decide +kernel) (by decide +kernel)
theorem zq_2023 : Cond.fieldLink RX12 33 "WholeInternetModel$Box" "came" "[I" ∈ zGW := zmem 2023 (by decide +kernel) (by decide +kernel)
theorem zq_2027 : Cond.fieldLink RX12 37 "WholeInternetModel$Box" "ownTick" "I" ∈ zGW := zmem 2027 (by decide +kernel) (by decide +kernel)
theorem zq_2029 : Cond.fieldLink RX12 41 "WholeInternetModel$Box" "thanksPort" "[I" ∈ zGW := zmem 2029 (by decide +kernel) (by decide +kernel)
theorem zq_2031 : Cond.fieldLink RX12 44 "WholeInternetModel$Box" "thanksGoal" "[I" ∈ zGW := zmem 2031 (by decide +kernel) (by decide +kernel)
theorem zq_2033 : Cond.fieldLink RX12 47 "WholeInternetModel$Box" "thanksTold" "[I" ∈ zGW := zmem 2033 (by decide +kernel) (by decide +kernel)
theorem zq_2036 : Cond.fieldLink RX12 50 "WholeInternetModel$Box" "isChanged" "Z" ∈ zGW := zmem 2036 (by decide +kernel) (by decide +kernel)
theorem zq_2038 : Cond.fieldLink RX12 54 "WholeInternetModel$Box" "mayTell" "Z" ∈ zGW := zmem 2038 (by decide +kernel) (by decide +kernel)
theorem zq_2040 : Cond.fieldLink RX12 57 "WholeInternetModel$Box" "wayCost" "[I" ∈ zGW := zmem 2040 (by decide +kernel) (by decide +kernel)
theorem zq_2042 : Cond.fieldLink RX12 60 "WholeInternetModel$Box" "wayBox" "[I" ∈ zGW := zmem 2042 (by decide +kernel) (by decide +kernel)
theorem zq_2044 : Cond.fieldLink RX12 63 "WholeInternetModel$Box" "wayNet" "[I" ∈ zGW := zmem 2044 (by decide +kernel) (by decide +kernel)
theorem zq_2046 : Cond.fieldLink RX12 68 "WholeInternetModel$Box" "doors" "[LWholeInternetModel$Door;" ∈ zGW := zmem 2046 (by decide +kernel) (by decide +kernel)
theorem zq_2114 : Cond.code yX17_init cX17_init 1 none ∈ zGW := zmem 2114 (by decide +kernel) (by decide +kernel)
theorem zq_2115 : Cond.methodLink RX17 3 objectInit ∈ zGW := zmem 2115 (by decide +kernel) (by decide +kernel)
theorem zq_2144 : Cond.code yX15_init cX15_init 1 none ∈ zGW := zmem 2144 (by decide +kernel) (by decide +kernel)
theorem zq_2145 : Cond.methodLink RX15 1 objectInit ∈ zGW := zmem 2145 (by decide +kernel) (by decide +kernel)
theorem zq_2150 : Cond.fieldLink RX15 7 "WholeInternetModel$Neighbour" "due" "[Z" ∈ zGW := zmem 2150 (by decide +kernel) (by decide +kernel)
theorem zq_2152 : Cond.fieldLink RX15 13 "WholeInternetModel$Neighbour" "sendAt" "[I" ∈ zGW := zmem 2152 (by decide +kernel) (by decide +kernel)
theorem zq_2171 : Cond.code yX13_init cX13_init 1 none ∈ zGW := zmem 2171 (by decide +kernel) (by decide +kernel)
theorem zq_2172 : Cond.methodLink RX13 3 objectInit ∈ zGW := zmem 2172 (by decide +kernel) (by decide +kernel)
theorem zq_2178 : Cond.fieldLink RX13 9 "WholeInternetModel$Door" "through" "I" ∈ zGW := zmem 2178 (by decide +kernel) (by decide +kernel)
theorem zq_2183 : Cond.fieldLink RX13 15 "WholeInternetModel$Door" "drained" "I" ∈ zGW := zmem 2183 (by decide +kernel) (by decide +kernel)
theorem zq_2210 : Cond.code yX14_init cX14_init 1 none ∈ zGW := zmem 2210 (by decide +kernel) (by decide +kernel)
theorem zq_2211 : Cond.methodLink RX14 3 objectInit ∈ zGW := zmem 2211 (by decide +kernel) (by decide +kernel)
theorem zq_2229 : Cond.fieldLink RX14 9 "WholeInternetModel$End" "out" "[B" ∈ zGW := zmem 2229 (by decide +kernel) (by decide +kernel)
theorem zq_2293 : Cond.fieldLink RX14 22 "WholeInternetModel$End" "book" "I" ∈ zGW := zmem 2293 (by decide +kernel) (by decide +kernel)
theorem zq_2295 : Cond.fieldLink RX14 26 "WholeInternetModel$End" "reads" "I" ∈ zGW := zmem 2295 (by decide +kernel) (by decide +kernel)
theorem zq_2409 : Cond.code yX16_init cX16_init 1 none ∈ zGW := zmem 2409 (by decide +kernel) (by decide +kernel)
theorem zq_2410 : Cond.methodLink RX16 1 objectInit ∈ zGW := zmem 2410 (by decide +kernel) (by decide +kernel)
theorem zq_2411 : Cond.classLink RX16 13 "WholeInternetModel$Port" ∈ zGW := zmem 2411 (by decide +kernel) (by decide +kernel)
theorem zq_2416 : Cond.fieldLink RX16 7 "WholeInternetModel$Net" "up" "Z" ∈ zGW := zmem 2416 (by decide +kernel) (by decide +kernel)
theorem zq_2418 : Cond.fieldLink RX16 15 "WholeInternetModel$Net" "stations" "[LWholeInternetModel$Port;" ∈ zGW := zmem 2418 (by decide +kernel) (by decide +kernel)
theorem zq_2421 : Cond.fieldLink RX16 19 "WholeInternetModel$Net" "fates" "[I" ∈ zGW := zmem 2421 (by decide +kernel) (by decide +kernel)
theorem zq_2466 : Cond.code yX18_init cX18_init 1 none ∈ zGW := zmem 2466 (by decide +kernel) (by decide +kernel)
theorem zq_2467 : Cond.methodLink RX18 3 objectInit ∈ zGW := zmem 2467 (by decide +kernel) (by decide +kernel)
theorem zq_2474 : Cond.fieldLink RX18 9 "WholeInternetModel$Port" "cost" "I" ∈ zGW := zmem 2474 (by decide +kernel) (by decide +kernel)
theorem zq_2476 : Cond.fieldLink RX18 15 "WholeInternetModel$Port" "up" "Z" ∈ zGW := zmem 2476 (by decide +kernel) (by decide +kernel)
theorem zq_2478 : Cond.fieldLink RX18 19 "WholeInternetModel$Port" "heard" "[I" ∈ zGW := zmem 2478 (by decide +kernel) (by decide +kernel)
theorem zq_35 : Cond.instanceMethod objectInit ∈ zGW := zmem 35 (by decide +kernel) (by decide +kernel)
theorem zq_36 : Cond.code objectInit ⟨#[0xb1]⟩ 1 none ∈ zGW := zmem 36 (by decide +kernel) (by decide +kernel)
theorem zq_46 : Cond.code yX7_init cX7_init 1 none ∈ zGW := zmem 46 (by decide +kernel) (by decide +kernel)
theorem zq_47 : Cond.methodLink RX7 3 objectInit ∈ zGW := zmem 47 (by decide +kernel) (by decide +kernel)
theorem zq_482 : Cond.arrayClass .boolean ∈ zGW := zmem 482 (by decide +kernel) (by decide +kernel)
theorem zq_552 : Cond.code yX6_init cX6_init 1 none ∈ zGW := zmem 552 (by decide +kernel) (by decide +kernel)
theorem zq_553 : Cond.methodLink RX6 3 objectInit ∈ zGW := zmem 553 (by decide +kernel) (by decide +kernel)
theorem zq_615 : Cond.code yX4_init cX4_init 1 none ∈ zGW := zmem 615 (by decide +kernel) (by decide +kernel)
theorem zq_616 : Cond.methodLink RX4 3 objectInit ∈ zGW := zmem 616 (by decide +kernel) (by decide +kernel)
theorem zq_650 : Cond.code yX10_init cX10_init 1 none ∈ zGW := zmem 650 (by decide +kernel) (by decide +kernel)
theorem zq_651 : Cond.methodLink RX10 1 objectInit ∈ zGW := zmem 651 (by decide +kernel) (by decide +kernel)
