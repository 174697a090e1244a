/-! rows over the state -/
section ZR
variable {p : Program} {l : Launch} {e : Env} {R : Room} {s : State} {m : MethodId} {args : Array Value} {below : List Frame} {meth : Method} {c : Code} {H : Heap} {locs : List Loc} {cells slots : Nat} {Q : State → Prop}
variable {cc : ByteArray} {nL pc : Nat} {ls : Array Slot} {rest : List Value} {own : String} {D : va_G} {cy : Nat → ClassId} {B : Nat → Nat → Nat} {ids : List (Nat × Nat)} {A : Nat → Prop} {H0 : Heap} {z : St} {k j o : Nat}
theorem zN_of {T : u_T} {N : Nat} {Cn : String} (hc : vwCl[k]? = some (Cn, T, N)) : zN k = N := by unfold zN; rw [hc]
theorem zr_get {ref Cn : String} {T : u_T} {N index : Nat} (hc : vwCl[k]? = some (Cn, T, N)) (hin : ∀ w ∈ u_ws Cn T N, w ∈ zGW) (hj : j < N) (hk : k < 100) (hl : Cond.fieldLink own index ref (T j).2.1 (T j).2.2.1 ∈ zGW) (hsame : ref = (T j).1)
    (F : zFx p m c cc nL s args own D cy B ids A) (hm : (k, o) ∈ ids) (hr : zRep D cy B ids A H0 z H locs) (hdg : decode cc pc = .ok (.getfield index, 3))
    (kk : W p l e R s m args below meth c H locs cells slots Q (F0 m (pc + 3) ls (zfv B z k j o :: rest))) : W p l e R s m args below meth c H locs cells slots Q (F0 m pc ls (.ref (B k o) :: rest)) := by
  obtain ⟨hx, hb, hml, hown, hG, hK, hN, hnd, hcl, hD⟩ := F
  obtain ⟨q0, h0, h1⟩ := zw_at (cy := cy) (B := B) z hm
  rw [zcel_o hk] at h1
  subst hsame
  exact va_get hx hb hG hin hown hK hr.1 q0 h1 hc j hj (hG _ hl) (fun _ h => h) (zfs_at (by rw [zN_of hc]; exact hj)) hdg kk
theorem zr_getN {ref Cn host : String} {T : u_T} {N index : Nat} (hc : vwCl[k]? = some (Cn, T, N)) (hin : ∀ w ∈ u_ws Cn T N, w ∈ zGW) (hj : j < N) (hk : k < 100) (hl : Cond.fieldLinkNest own index ref (T j).2.1 (T j).2.2.1 host ∈ zNL) (hsame : ref = (T j).1)
    (F : zFx p m c cc nL s args own D cy B ids A) (hm : (k, o) ∈ ids) (hr : zRep D cy B ids A H0 z H locs) (hdg : decode cc pc = .ok (.getfield index, 3))
    (kk : W p l e R s m args below meth c H locs cells slots Q (F0 m (pc + 3) ls (zfv B z k j o :: rest))) : W p l e R s m args below meth c H locs cells slots Q (F0 m pc ls (.ref (B k o) :: rest)) := by
  obtain ⟨hx, hb, hml, hown, hG, hK, hN, hnd, hcl, hD⟩ := F
  obtain ⟨q0, h0, h1⟩ := zw_at (cy := cy) (B := B) z hm
  rw [zcel_o hk] at h1
  subst hsame
  exact va_getN hx hb hG hin hown hK hr.1 q0 h1 hc j hj (va_Nw.use rfl (hN _ hl)) (fun _ h => h) (zfs_at (by rw [zN_of hc]; exact hj)) hdg kk
theorem zfv_I {x : Nat} (h : zkF k j = (0, x)) : zfv B z k j o = .int (zgI z k j o) := by unfold zfv; rw [h] <;> rfl
theorem zfv_R {t : Nat} (h : zkF k j = (1, t)) : zfv B z k j o = va_rf ((zgR z k j o).map (B t)) := by unfold zfv; rw [h] <;> rfl
theorem zfv_A {a : Nat} (h : zkF k j = (2, a)) : zfv B z k j o = .ref (B a o) := by unfold zfv; rw [h] <;> rfl
theorem zrep_putI (hm : (k, o) ∈ ids) (hk : k < 100) (h11 : ¬ (k = 1 ∧ j = 1)) (hj : j < zN k) {x : Nat} (hf : zkF k j = (0, x)) (F : zFx p m c cc nL s args own D cy B ids A) {q0 : Nat} (h0 : ids[q0]? = some (k, o)) {v : Int32} {H1 : Heap} {locs1 : List Loc} (hW : zWf ids z)
    (hP : va_P D vwCl ((zw cy B ids z).set q0 (B k o, .inr (k, (zfs B z k o).set j (.int v)))) H1) (hS : va_S A H0 H1 locs1) : zRep D cy B ids A H0 (zsI z k j o v) H1 locs1 := by
  obtain ⟨hx, hb, hml, hown, hG, hK, hN, hnd, hcl, hD⟩ := F
  rw [zw_set (z' := zsI z k j o v) h0 hnd (by
    rw [zcel_o hk, zfs_set (z' := zsI z k j o v) hj (by rw [zfv_I hf, zgI_sI, if_pos ⟨rfl, rfl, rfl⟩]) (fun i hi => by
      unfold zfv
      rw [zgI_sI, if_neg (fun q => hi q.2.1), zgR_sI])]) (fun q hq => zcel_sI h11 q hq)] at hP
  exact ⟨hP, hS, zWf_sI hW _ _ _ _⟩
theorem zrep_putR (hm : (k, o) ∈ ids) (hk : k < 100) (hj : j < zN k) {t : Nat} (hf : zkF k j = (1, t)) (F : zFx p m c cc nL s args own D cy B ids A) {q0 : Nat} (h0 : ids[q0]? = some (k, o)) {v : Option Nat} (hv : ∀ x, v = some x → (t, x) ∈ ids) {H1 : Heap} {locs1 : List Loc} (hW : zWf ids z)
    (hP : va_P D vwCl ((zw cy B ids z).set q0 (B k o, .inr (k, (zfs B z k o).set j (va_rf (v.map (B t)))))) H1) (hS : va_S A H0 H1 locs1) : zRep D cy B ids A H0 (zsR z k j o v) H1 locs1 := by
  obtain ⟨hx, hb, hml, hown, hG, hK, hN, hnd, hcl, hD⟩ := F
  rw [zw_set (z' := zsR z k j o v) h0 hnd (by
    rw [zcel_o hk, zfs_set (z' := zsR z k j o v) hj (by rw [zfv_R hf, zgR_sR, if_pos ⟨rfl, rfl, rfl⟩]) (fun i hi => by
      unfold zfv
      rw [zgR_sR, if_neg (fun q => hi q.2.1), zgI_sR])]) (fun q hq => zcel_sR q hq)] at hP
  exact ⟨hP, hS, zWf_sR hW (by rw [hf]; exact hv)⟩
theorem zr_put {ref Cn : String} {T : u_T} {N index : Nat} (ty0 : Nat → FieldType) (hty : ∀ k, k < N → parseFieldDescriptor (T k).2.2.1 = some (ty0 k)) (hnm : ∀ a, a < N → ∀ b, b < N → a ≠ b → (T a).2.1 ≠ (T b).2.1) (hc : vwCl[k]? = some (Cn, T, N)) (hin : ∀ w ∈ u_ws Cn T N, w ∈ zGW) (hj : j < N) (hk : k < 100) (hl : Cond.fieldLink own index ref (T j).2.1 (T j).2.2.1 ∈ zGW) (hsame : ref = (T j).1) (hfin : (T j).2.2.2 = false)
    (F : zFx p m c cc nL s args own D cy B ids A) (hm : (k, o) ∈ ids) (hr : zRep D cy B ids A H0 z H locs) (hdg : decode cc pc = .ok (.putfield index, 3)) {v : Value} (hn : narrow (ty0 j) v = v) (hfit : fits (ty0 j) v = true)
    (kk : ∀ (q0 : Nat) (H1 : Heap) (locs1 : List Loc), ids[q0]? = some (k, o) → va_P D vwCl ((zw cy B ids z).set q0 (B k o, .inr (k, (zfs B z k o).set j v))) H1 → va_S A H0 H1 locs1 → W p l e R s m args below meth c H1 locs1 cells slots Q (F0 m (pc + 3) ls rest)) : W p l e R s m args below meth c H locs cells slots Q (F0 m pc ls (v :: .ref (B k o) :: rest)) := by
  obtain ⟨hx, hb, hml, hown, hG, hK, hN, hnd, hcl, hD⟩ := F
  obtain ⟨q0, h0, h1⟩ := zw_at (cy := cy) (B := B) z hm
  rw [zcel_o hk] at h1
  subst hsame
  exact va_put hx hb hG hin ty0 hty hnm hown hK hr.1 (hD z) hr.2.1 q0 h1 hc j hj (hG _ hl) (fun _ h => h) hfin (hty j hj) hn hfit (by rw [zfs_len, zN_of hc]; exact hj) hdg (fun H1 locs1 hP _ hS => kk q0 H1 locs1 h0 hP hS)
theorem zr_putN {ref Cn host : String} {T : u_T} {N index : Nat} (ty0 : Nat → FieldType) (hty : ∀ k, k < N → parseFieldDescriptor (T k).2.2.1 = some (ty0 k)) (hnm : ∀ a, a < N → ∀ b, b < N → a ≠ b → (T a).2.1 ≠ (T b).2.1) (hc : vwCl[k]? = some (Cn, T, N)) (hin : ∀ w ∈ u_ws Cn T N, w ∈ zGW) (hj : j < N) (hk : k < 100) (hl : Cond.fieldLinkNest own index ref (T j).2.1 (T j).2.2.1 host ∈ zNL) (hsame : ref = (T j).1) (hfin : (T j).2.2.2 = false)
    (F : zFx p m c cc nL s args own D cy B ids A) (hm : (k, o) ∈ ids) (hr : zRep D cy B ids A H0 z H locs) (hdg : decode cc pc = .ok (.putfield index, 3)) {v : Value} (hn : narrow (ty0 j) v = v) (hfit : fits (ty0 j) v = true)
    (kk : ∀ (q0 : Nat) (H1 : Heap) (locs1 : List Loc), ids[q0]? = some (k, o) → va_P D vwCl ((zw cy B ids z).set q0 (B k o, .inr (k, (zfs B z k o).set j v))) H1 → va_S A H0 H1 locs1 → W p l e R s m args below meth c H1 locs1 cells slots Q (F0 m (pc + 3) ls rest)) : W p l e R s m args below meth c H locs cells slots Q (F0 m pc ls (v :: .ref (B k o) :: rest)) := by
  obtain ⟨hx, hb, hml, hown, hG, hK, hN, hnd, hcl, hD⟩ := F
  obtain ⟨q0, h0, h1⟩ := zw_at (cy := cy) (B := B) z hm
  rw [zcel_o hk] at h1
  subst hsame
  exact va_putN hx hb hG hin ty0 hty hnm hown hK hr.1 (hD z) hr.2.1 q0 h1 hc j hj (va_Nw.use rfl (hN _ hl)) (fun _ h => h) hfin (hty j hj) hn hfit (by rw [zfs_len, zN_of hc]; exact hj) hdg (fun H1 locs1 hP _ hS => kk q0 H1 locs1 h0 hP hS)
/-! arrays -/
theorem zco_i {B : Nat → Nat → Nat} {z : St} {k o : Nat} (h : (zkA k).1 = 0 ∨ (zkA k).1 = 1 ∨ (zkA k).1 = 3) : zco B z k o = .inl (zgA z k o) := by
  unfold zco
  rcases h with h | h | h <;> rw [h] <;> rfl
theorem zco_l {B : Nat → Nat → Nat} {z : St} {k o : Nat} (h : (zkA k).1 = 2) : zco B z k o = .inr (.inl (zgL z k o)) := by
  unfold zco; rw [h] <;> rfl
theorem zco_q {B : Nat → Nat → Nat} {z : St} {k o : Nat} (h : (zkA k).1 = 4) : zco B z k o = .inr (.inr (.inr (.inr (fun i => (zgQ z k o i).map (B (zkA k).2.2.1))))) := by
  unfold zco; rw [h] <;> rfl
theorem zco_r {B : Nat → Nat → Nat} {z : St} {k o : Nat} (h : (zkA k).1 = 5) : zco B z k o = .inr (.inr (.inr (.inr (fun i => some (B (zkA k).2.2.1 (o * (zkA k).2.1 + i)))))) := by
  unfold zco; rw [h] <;> rfl
theorem zr_iald {n t : Nat} {x : Int32} (hk : 100 ≤ k) (hA : zkA k = (1, n, t, 1)) (hd : k ≠ 119) (F : zFx p m c cc nL s args own D cy B ids A) (hm : (k, o) ∈ ids) (hr : zRep D cy B ids A H0 z H locs) (hdg : decode cc pc = .ok (.iaload, 1)) (hin : vp_in x n)
    (kk : W p l e R s m args below meth c H locs cells slots Q (F0 m (pc + 1) ls (.int (zgA z k o x.toNatClampNeg) :: rest))) : W p l e R s m args below meth c H locs cells slots Q (F0 m pc ls (.int x :: .ref (B k o) :: rest)) := by
  obtain ⟨hx, hb, hml, hown, hG, hK, hN, hnd, hcl, hD⟩ := F
  obtain ⟨q0, h0, h1⟩ := zw_at (cy := cy) (B := B) z hm
  rw [zcel_a hk, zlen_d hd, zco_i (by rw [hA]; exact Or.inr (Or.inl rfl)), hA] at h1
  exact va_iald hx hb hK hr.1 q0 1 h1 rfl hin hdg kk
theorem zr_bald {n t : Nat} {x : Int32} (hk : 100 ≤ k) (hA : zkA k = (0, n, t, 0)) (hd : k ≠ 119) (F : zFx p m c cc nL s args own D cy B ids A) (hm : (k, o) ∈ ids) (hr : zRep D cy B ids A H0 z H locs) (hdg : decode cc pc = .ok (.baload, 1)) (hin : vp_in x n)
    (kk : W p l e R s m args below meth c H locs cells slots Q (F0 m (pc + 1) ls (.int (zgA z k o x.toNatClampNeg) :: rest))) : W p l e R s m args below meth c H locs cells slots Q (F0 m pc ls (.int x :: .ref (B k o) :: rest)) := by
  obtain ⟨hx, hb, hml, hown, hG, hK, hN, hnd, hcl, hD⟩ := F
  obtain ⟨q0, h0, h1⟩ := zw_at (cy := cy) (B := B) z hm
  rw [zcel_a hk, zlen_d hd, zco_i (by rw [hA]; exact Or.inl rfl), hA] at h1
  exact va_bald hx hb hK hr.1 q0 0 h1 rfl hin hdg kk
theorem zr_zald {n t : Nat} {x : Int32} (hk : 100 ≤ k) (hA : zkA k = (3, n, t, 3)) (hd : k ≠ 119) (F : zFx p m c cc nL s args own D cy B ids A) (hm : (k, o) ∈ ids) (hr : zRep D cy B ids A H0 z H locs) (hdg : decode cc pc = .ok (.baload, 1)) (hin : vp_in x n)
    (kk : W p l e R s m args below meth c H locs cells slots Q (F0 m (pc + 1) ls (.int (zgA z k o x.toNatClampNeg) :: rest))) : W p l e R s m args below meth c H locs cells slots Q (F0 m pc ls (.int x :: .ref (B k o) :: rest)) := by
  obtain ⟨hx, hb, hml, hown, hG, hK, hN, hnd, hcl, hD⟩ := F
  obtain ⟨q0, h0, h1⟩ := zw_at (cy := cy) (B := B) z hm
  rw [zcel_a hk, zlen_d hd, zco_i (by rw [hA]; exact Or.inr (Or.inr rfl)), hA] at h1
  exact va_zald hx hb hK hr.1 q0 3 h1 rfl hin hdg kk
theorem zr_lald {n t : Nat} {x : Int32} (hk : 100 ≤ k) (hA : zkA k = (2, n, t, 2)) (hd : k ≠ 119) (F : zFx p m c cc nL s args own D cy B ids A) (hm : (k, o) ∈ ids) (hr : zRep D cy B ids A H0 z H locs) (hdg : decode cc pc = .ok (.laload, 1)) (hin : vp_in x n)
    (kk : W p l e R s m args below meth c H locs cells slots Q (F0 m (pc + 1) ls (.long (zgL z k o x.toNatClampNeg) :: rest))) : W p l e R s m args below meth c H locs cells slots Q (F0 m pc ls (.int x :: .ref (B k o) :: rest)) := by
  obtain ⟨hx, hb, hml, hown, hG, hK, hN, hnd, hcl, hD⟩ := F
  obtain ⟨q0, h0, h1⟩ := zw_at (cy := cy) (B := B) z hm
  rw [zcel_a hk, zlen_d hd, zco_l (by rw [hA]), hA] at h1
  exact va_lald hx hb hK hr.1 q0 2 h1 rfl hin hdg kk
theorem zr_aald {n t ti : Nat} {C : String} {x : Int32} (hk : 100 ≤ k) (hA : zkA k = (4, n, t, ti)) (hty : (zty cy)[ti]? = some (cy ti, .object C)) (F : zFx p m c cc nL s args own D cy B ids A) (hm : (k, o) ∈ ids) (hr : zRep D cy B ids A H0 z H locs) (hdg : decode cc pc = .ok (.aaload, 1)) (hin : vp_in x (zlen z k o))
    (kk : W p l e R s m args below meth c H locs cells slots Q (F0 m (pc + 1) ls (va_rf ((zgQ z k o x.toNatClampNeg).map (B t)) :: rest))) : W p l e R s m args below meth c H locs cells slots Q (F0 m pc ls (.int x :: .ref (B k o) :: rest)) := by
  obtain ⟨hx, hb, hml, hown, hG, hK, hN, hnd, hcl, hD⟩ := F
  obtain ⟨q0, h0, h1⟩ := zw_at (cy := cy) (B := B) z hm
  rw [zcel_a hk, zco_q (by rw [hA]), hA] at h1
  exact va_aldq hx hb hK hr.1 q0 ti h1 hty hin hdg kk
theorem zr_rald {n t ti : Nat} {ty : FieldType} {x : Int32} (hk : 100 ≤ k) (hA : zkA k = (5, n, t, ti)) (hd : k ≠ 119) (hty : (zty cy)[ti]? = some (cy ti, .array ty)) (F : zFx p m c cc nL s args own D cy B ids A) (hm : (k, o) ∈ ids) (hr : zRep D cy B ids A H0 z H locs) (hdg : decode cc pc = .ok (.aaload, 1)) (hin : vp_in x n)
    (kk : W p l e R s m args below meth c H locs cells slots Q (F0 m (pc + 1) ls (.ref (B t (o * n + x.toNatClampNeg)) :: rest))) : W p l e R s m args below meth c H locs cells slots Q (F0 m pc ls (.int x :: .ref (B k o) :: rest)) := by
  obtain ⟨hx, hb, hml, hown, hG, hK, hN, hnd, hcl, hD⟩ := F
  obtain ⟨q0, h0, h1⟩ := zw_at (cy := cy) (B := B) z hm
  rw [zcel_a hk, zlen_d hd, zco_r (by rw [hA]), hA] at h1
  have hlt : x.toNatClampNeg < n := Nat.lt_of_not_le fun q => hin (Or.inr q)
  exact W.aald hx hb (hr.1 q0 _ h1) ((hK.2 ti _ hty).1 n _) rfl (fun q => by cases q) (by show ¬ (x < 0 ∨ (arrV _ _ _).slots.size ≤ _); rw [arrV_size]; exact hin) (by show (arrV _ _ _).slots[_]? = _; rw [arrV_read _ _ hlt]; rfl) rfl rfl hdg kk
end ZR
