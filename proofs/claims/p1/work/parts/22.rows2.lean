/-! stores into arrays; references that may be null; calls; ends -/
section ZS
variable {p : Program} {l : Launch} {e : Env} {R : Room} {s : State} {m : MethodId} {args : Array Value} {below : List Frame} {meth : Method} {c : Code} {H : Heap} {locs : List Loc} {cells slots : Nat} {Q : State → Prop}
variable {cc : ByteArray} {nL pc : Nat} {ls : Array Slot} {rest : List Value} {own : String} {D : va_G} {cy : Nat → ClassId} {B : Nat → Nat → Nat} {ids : List (Nat × Nat)} {A : Nat → Prop} {H0 : Heap} {z : St} {k j o : Nat}
theorem zgA_up {z : St} {k o i : Nat} {v : Int32} : zgA (zsA z k o i v) k o = upd (zgA z k o) i v := by
  funext x
  rw [zgA_sA]
  unfold upd
  by_cases h : x = i
  · rw [if_pos ⟨rfl, rfl, h⟩, if_pos h]
  · rw [if_neg (fun q => h q.2.2), if_neg h]
theorem zgL_up {z : St} {k o i : Nat} {v : Int64} : zgL (zsL z k o i v) k o = vp_updL (zgL z k o) i v := by
  funext x
  rw [zgL_sL]
  unfold vp_updL
  by_cases h : x = i
  · rw [if_pos ⟨rfl, rfl, h⟩, if_pos h]
  · rw [if_neg (fun q => h q.2.2), if_neg h]
theorem zgQ_up {z : St} {k o i t : Nat} {v : Option Nat} : (fun x => (zgQ (zsQ z k o i v) k o x).map (B t)) = va_up (fun x => (zgQ z k o x).map (B t)) i (v.map (B t)) := by
  funext x
  rw [zgQ_sQ]
  unfold va_up
  by_cases h : x = i
  · rw [if_pos ⟨rfl, rfl, h⟩, if_pos h]
  · rw [if_neg (fun q => h q.2.2), if_neg h]
theorem zlen_sA {z : St} {k o i : Nat} {v : Int32} {k' o' : Nat} : zlen (zsA z k o i v) k' o' = zlen z k' o' := rfl
theorem zlen_sL {z : St} {k o i : Nat} {v : Int64} {k' o' : Nat} : zlen (zsL z k o i v) k' o' = zlen z k' o' := rfl
theorem zlen_sQ {z : St} {k o i : Nat} {v : Option Nat} {k' o' : Nat} : zlen (zsQ z k o i v) k' o' = zlen z k' o' := rfl
theorem zr_iast {n t : Nat} {x v : Int32} (hk : 100 ≤ k) (hA : zkA k = (1, n, t, 1)) (hd : k ≠ 119) (F : zFx p m c cc nL s args own D cy B ids A) (hm : (k, o) ∈ ids) (hr : zRep D cy B ids A H0 z H locs) (hdg : decode cc pc = .ok (.iastore, 1)) (hin : vp_in x n)
    (kk : ∀ (H1 : Heap) (locs1 : List Loc) (z1 : St), z1 = zsA z k o x.toNatClampNeg v → zRep D cy B ids A H0 z1 H1 locs1 → W p l e R s m args below meth c H1 locs1 cells slots Q (F0 m (pc + 1) ls rest)) : W p l e R s m args below meth c H locs cells slots Q (F0 m pc ls (.int v :: .int x :: .ref (B k o) :: rest)) := by
  obtain ⟨hx, hb, hml, hown, hG, hK, hN, hnd, hcl, hD⟩ := F
  obtain ⟨q0, h0, h1⟩ := zw_at (cy := cy) (B := B) z hm
  have hco : ∀ z : St, zcel cy B z (k, o) = .inl (cy 1, (n, .inl (zgA z k o))) := fun z => by
    rw [zcel_a hk, zlen_d hd, zco_i (by rw [hA]; exact Or.inr (Or.inl rfl)), hA]
  rw [hco] at h1
  refine va_iast hx hb hK hr.1 (hD z) hr.2.1 q0 1 h1 rfl hin hdg (fun H1 locs1 hP _ hS => kk H1 locs1 _ rfl ⟨?_, hS, zWf_sA hr.2.2 (fun q => by rw [hA] at q; cases q)⟩)
  rw [← zgA_up] at hP
  rw [zw_set (z' := zsA z k o x.toNatClampNeg v) h0 hnd (by rw [hco]) (fun q hq => zcel_sA q hq)] at hP
  exact hP
theorem zr_bast {n t : Nat} {x v : Int32} (hk : 100 ≤ k) (hA : zkA k = (0, n, t, 0)) (hd : k ≠ 119) (F : zFx p m c cc nL s args own D cy B ids A) (hm : (k, o) ∈ ids) (hr : zRep D cy B ids A H0 z H locs) (hdg : decode cc pc = .ok (.bastore, 1)) (hin : vp_in x n)
    (kk : ∀ (H1 : Heap) (locs1 : List Loc) (z1 : St), z1 = zsA z k o x.toNatClampNeg (vp_nar .byte v) → zRep D cy B ids A H0 z1 H1 locs1 → W p l e R s m args below meth c H1 locs1 cells slots Q (F0 m (pc + 1) ls rest)) : W p l e R s m args below meth c H locs cells slots Q (F0 m pc ls (.int v :: .int x :: .ref (B k o) :: rest)) := by
  obtain ⟨hx, hb, hml, hown, hG, hK, hN, hnd, hcl, hD⟩ := F
  obtain ⟨q0, h0, h1⟩ := zw_at (cy := cy) (B := B) z hm
  have hco : ∀ z : St, zcel cy B z (k, o) = .inl (cy 0, (n, .inl (zgA z k o))) := fun z => by
    rw [zcel_a hk, zlen_d hd, zco_i (by rw [hA]; exact Or.inl rfl), hA]
  rw [hco] at h1
  refine va_bast hx hb hK hr.1 (hD z) hr.2.1 q0 0 h1 rfl hin hdg (fun H1 locs1 hP _ hS => kk H1 locs1 _ rfl ⟨?_, hS, zWf_sA hr.2.2 (fun q => by rw [vp_nar_byte]; exact pk_vb _)⟩)
  rw [← zgA_up] at hP
  rw [zw_set (z' := zsA z k o x.toNatClampNeg (vp_nar .byte v)) h0 hnd (by rw [hco]) (fun q hq => zcel_sA q hq)] at hP
  exact hP
theorem zr_zast {n t : Nat} {x v : Int32} (hk : 100 ≤ k) (hA : zkA k = (3, n, t, 3)) (hd : k ≠ 119) (F : zFx p m c cc nL s args own D cy B ids A) (hm : (k, o) ∈ ids) (hr : zRep D cy B ids A H0 z H locs) (hdg : decode cc pc = .ok (.bastore, 1)) (hin : vp_in x n)
    (kk : ∀ (H1 : Heap) (locs1 : List Loc) (z1 : St), z1 = zsA z k o x.toNatClampNeg (vp_nar .boolean v) → zRep D cy B ids A H0 z1 H1 locs1 → W p l e R s m args below meth c H1 locs1 cells slots Q (F0 m (pc + 1) ls rest)) : W p l e R s m args below meth c H locs cells slots Q (F0 m pc ls (.int v :: .int x :: .ref (B k o) :: rest)) := by
  obtain ⟨hx, hb, hml, hown, hG, hK, hN, hnd, hcl, hD⟩ := F
  obtain ⟨q0, h0, h1⟩ := zw_at (cy := cy) (B := B) z hm
  have hco : ∀ z : St, zcel cy B z (k, o) = .inl (cy 3, (n, .inl (zgA z k o))) := fun z => by
    rw [zcel_a hk, zlen_d hd, zco_i (by rw [hA]; exact Or.inr (Or.inr rfl)), hA]
  rw [hco] at h1
  refine va_zast hx hb hK hr.1 (hD z) hr.2.1 q0 3 h1 rfl hin hdg (fun H1 locs1 hP _ hS => kk H1 locs1 _ rfl ⟨?_, hS, zWf_sA hr.2.2 (fun q => by rw [hA] at q; cases q)⟩)
  rw [← zgA_up] at hP
  rw [zw_set (z' := zsA z k o x.toNatClampNeg (vp_nar .boolean v)) h0 hnd (by rw [hco]) (fun q hq => zcel_sA q hq)] at hP
  exact hP
theorem zr_last {n t : Nat} {x : Int32} {v : Int64} (hk : 100 ≤ k) (hA : zkA k = (2, n, t, 2)) (hd : k ≠ 119) (F : zFx p m c cc nL s args own D cy B ids A) (hm : (k, o) ∈ ids) (hr : zRep D cy B ids A H0 z H locs) (hdg : decode cc pc = .ok (.lastore, 1)) (hin : vp_in x n)
    (kk : ∀ (H1 : Heap) (locs1 : List Loc) (z1 : St), z1 = zsL z k o x.toNatClampNeg v → zRep D cy B ids A H0 z1 H1 locs1 → W p l e R s m args below meth c H1 locs1 cells slots Q (F0 m (pc + 1) ls rest)) : W p l e R s m args below meth c H locs cells slots Q (F0 m pc ls (.long v :: .int x :: .ref (B k o) :: rest)) := by
  obtain ⟨hx, hb, hml, hown, hG, hK, hN, hnd, hcl, hD⟩ := F
  obtain ⟨q0, h0, h1⟩ := zw_at (cy := cy) (B := B) z hm
  have hco : ∀ z : St, zcel cy B z (k, o) = .inl (cy 2, (n, .inr (.inl (zgL z k o)))) := fun z => by
    rw [zcel_a hk, zlen_d hd, zco_l (by rw [hA]), hA]
  rw [hco] at h1
  refine va_last hx hb hK hr.1 (hD z) hr.2.1 q0 2 h1 rfl hin hdg (fun H1 locs1 hP _ hS => kk H1 locs1 _ rfl ⟨?_, hS, zWf_sL hr.2.2 _ _ _ _⟩)
  rw [← zgL_up] at hP
  rw [zw_set (z' := zsL z k o x.toNatClampNeg v) h0 hnd (by rw [hco]) (fun q hq => zcel_sL q hq)] at hP
  exact hP
theorem zr_aast {n t ti : Nat} {Cn : String} {T : u_T} {N : Nat} {x : Int32} {v : Option Nat} (hk : 100 ≤ k) (hA : zkA k = (4, n, t, ti)) (ht : t < 100) (hc : vwCl[t]? = some (Cn, T, N)) (hty : (zty cy)[ti]? = some (cy ti, .object Cn)) (F : zFx p m c cc nL s args own D cy B ids A) (hm : (k, o) ∈ ids) (hr : zRep D cy B ids A H0 z H locs) (hdg : decode cc pc = .ok (.aastore, 1)) (hin : vp_in x (zlen z k o)) (hv : ∀ i, v = some i → (t, i) ∈ ids)
    (kk : ∀ (H1 : Heap) (locs1 : List Loc) (z1 : St), z1 = zsQ z k o x.toNatClampNeg v → zRep D cy B ids A H0 z1 H1 locs1 → W p l e R s m args below meth c H1 locs1 cells slots Q (F0 m (pc + 1) ls rest)) : W p l e R s m args below meth c H locs cells slots Q (F0 m pc ls (va_rf (v.map (B t)) :: .int x :: .ref (B k o) :: rest)) := by
  obtain ⟨hx, hb, hml, hown, hG, hK, hN, hnd, hcl, hD⟩ := F
  obtain ⟨q0, h0, h1⟩ := zw_at (cy := cy) (B := B) z hm
  have hco : ∀ z : St, zcel cy B z (k, o) = .inl (cy ti, (zlen z k o, .inr (.inr (.inr (.inr (fun i => (zgQ z k o i).map (B t))))))) := fun z => by
    rw [zcel_a hk, zco_q (by rw [hA]), hA]
  rw [hco] at h1
  have fin : ∀ (H1 : Heap) (locs1 : List Loc), va_P D vwCl ((zw cy B ids z).set q0 (B k o, .inl (cy ti, (zlen z k o, .inr (.inr (.inr (.inr (va_up (fun i => (zgQ z k o i).map (B t)) x.toNatClampNeg (v.map (B t)))))))))) H1 → va_S A H0 H1 locs1 → zRep D cy B ids A H0 (zsQ z k o x.toNatClampNeg v) H1 locs1 := by
    intro H1 locs1 hP hS
    refine ⟨?_, hS, zWf_sQ hr.2.2 (by rw [hA]; exact hv)⟩
    rw [← zgQ_up] at hP
    rw [zw_set (z' := zsQ z k o x.toNatClampNeg v) h0 hnd (by rw [hco]; rfl) (fun q hq => zcel_sQ q hq)] at hP
    exact hP
  cases v with
  | none => exact va_astqN hx hb hK hr.1 (hD z) hr.2.1 q0 ti h1 hty hin hdg (fun H1 locs1 hP _ hS => kk H1 locs1 _ rfl (fin H1 locs1 hP hS))
  | some i =>
    obtain ⟨qk, g0, g1⟩ := zw_at (cy := cy) (B := B) z (hv i rfl)
    rw [zcel_o ht] at g1
    exact va_astq (r := (Cn, T, N)) hx hb hK hr.1 (hD z) hr.2.1 q0 ti qk t h1 hty g1 hc hin hdg (fun H1 locs1 hP _ hS => kk H1 locs1 _ rfl (fin H1 locs1 hP hS))
theorem zr_alen {n : Nat} {v : Int32} (hk : 100 ≤ k) (hlen : zlen z k o = n) (hv : Int32.ofNat n = v) {ti : Nat} {ty : FieldType} (hti : (zkA k).2.2.2 = ti) (hty : (zty cy)[ti]? = some (cy ti, ty)) (F : zFx p m c cc nL s args own D cy B ids A) (hm : (k, o) ∈ ids) (hr : zRep D cy B ids A H0 z H locs) (hdg : decode cc pc = .ok (.arraylength, 1))
    (kk : W p l e R s m args below meth c H locs cells slots Q (F0 m (pc + 1) ls (.int v :: rest))) : W p l e R s m args below meth c H locs cells slots Q (F0 m pc ls (.ref (B k o) :: rest)) := by
  obtain ⟨hx, hb, hml, hown, hG, hK, hN, hnd, hcl, hD⟩ := F
  obtain ⟨q0, h0, h1⟩ := zw_at (cy := cy) (B := B) z hm
  rw [zcel_a hk, hti] at h1
  exact va_alen hx hb hK hr.1 q0 ti h1 hty (by rw [← hv, ← hlen]) hdg kk
/-! references that may be null -/
theorem zr_aload_n {kk0 : Fin 4} {i : Nat} {r : Option Nat} (hx : p.tables.exec = Jvm.exec) (hb : c.code = cc) (hdg : decode cc pc = .ok (.aload_n kk0, 1)) (hi : (kk0 : Nat) = i) (hl : ls[i]? = some (.val (va_rf r)))
    (kk : W p l e R s m args below meth c H locs cells slots Q (F0 m (pc + 1) ls (va_rf r :: rest))) : W p l e R s m args below meth c H locs cells slots Q (F0 m pc ls rest) := by
  cases r with
  | none => exact lv_aload_nN hx hb hdg hi hl kk
  | some a => exact lv_aload_n hx hb hdg hi hl kk
theorem zr_aload {i : Nat} {r : Option Nat} (hx : p.tables.exec = Jvm.exec) (hb : c.code = cc) (hdg : decode cc pc = .ok (.aload i, 2)) (hl : ls[i]? = some (.val (va_rf r)))
    (kk : W p l e R s m args below meth c H locs cells slots Q (F0 m (pc + 2) ls (va_rf r :: rest))) : W p l e R s m args below meth c H locs cells slots Q (F0 m pc ls rest) := by
  cases r with
  | none => exact lv_aloadN hx hb hdg hl kk
  | some a => exact lv_aload hx hb hdg hl kk
theorem zr_astore_n {kk0 : Fin 4} {i nl : Nat} {r : Option Nat} {lv lv' : List (Nat × Value)} (hx : p.tables.exec = Jvm.exec) (hb : c.code = cc) (hdg : decode cc pc = .ok (.astore_n kk0, 1)) (hi : (kk0 : Nat) = i) (h : lv_has ls nl lv) (hn : i < nl) (hl : (i, va_rf r) :: lv.filter (fun q => !(q.1 == i) && !(q.1 + 1 == i && q.2.category == 2)) = lv')
    (kk : ∀ ls1 : Array Slot, lv_has ls1 nl lv' → W p l e R s m args below meth c H locs cells slots Q (F0 m (pc + 1) ls1 rest)) : W p l e R s m args below meth c H locs cells slots Q (F0 m pc ls (va_rf r :: rest)) := by
  cases r with
  | none => exact lv_astore_nN hx hb hdg hi h hn hl kk
  | some a => exact lv_astore_n hx hb hdg hi h hn hl kk
theorem zr_astore {i nl : Nat} {r : Option Nat} {lv lv' : List (Nat × Value)} (hx : p.tables.exec = Jvm.exec) (hb : c.code = cc) (hdg : decode cc pc = .ok (.astore i, 2)) (h : lv_has ls nl lv) (hn : i < nl) (hl : (i, va_rf r) :: lv.filter (fun q => !(q.1 == i) && !(q.1 + 1 == i && q.2.category == 2)) = lv')
    (kk : ∀ ls1 : Array Slot, lv_has ls1 nl lv' → W p l e R s m args below meth c H locs cells slots Q (F0 m (pc + 2) ls1 rest)) : W p l e R s m args below meth c H locs cells slots Q (F0 m pc ls (va_rf r :: rest)) := by
  cases r with
  | none => exact lv_astoreN hx hb hdg h hn hl kk
  | some a => exact lv_astore hx hb hdg h hn hl kk
theorem zr_ifnull {x : Option Nat} {t : Nat} {off : Int} {tgt : Nat} (hx : p.tables.exec = Jvm.exec) (hb : c.code = cc) (hdg : decode cc pc = .ok (.ifnull off, 3)) (ht : (pc : Int) + off = (tgt : Int))
    (k1 : x = none → W p l e R s m args below meth c H locs cells slots Q (F0 m tgt ls rest)) (k2 : ∀ i, x = some i → W p l e R s m args below meth c H locs cells slots Q (F0 m (pc + 3) ls rest)) : W p l e R s m args below meth c H locs cells slots Q (F0 m pc ls (va_rf (x.map (B t)) :: rest)) := by
  cases x with
  | none => exact lv_ifnullN hx hb hdg ht (k1 rfl)
  | some a => exact lv_ifnull hx hb hdg (k2 a rfl)
theorem zr_ifnonnull {x : Option Nat} {t : Nat} {off : Int} {tgt : Nat} (hx : p.tables.exec = Jvm.exec) (hb : c.code = cc) (hdg : decode cc pc = .ok (.ifnonnull off, 3)) (ht : (pc : Int) + off = (tgt : Int))
    (k1 : x = none → W p l e R s m args below meth c H locs cells slots Q (F0 m (pc + 3) ls rest)) (k2 : ∀ i, x = some i → W p l e R s m args below meth c H locs cells slots Q (F0 m tgt ls rest)) : W p l e R s m args below meth c H locs cells slots Q (F0 m pc ls (va_rf (x.map (B t)) :: rest)) := by
  cases x with
  | none => exact lv_ifnonnullN hx hb hdg (k1 rfl)
  | some a => exact lv_ifnonnull hx hb hdg ht (k2 a rfl)
theorem zrf_cat {r : Option Nat} : (va_rf r).category = 1 := by cases r <;> rfl
end ZS
