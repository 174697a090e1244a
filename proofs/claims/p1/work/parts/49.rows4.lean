/-! reading and writing the arrays that are being made -/
section ZK4
variable {p : Program} {l : Launch} {e : Env} {R : Room} {s : State} {m : MethodId} {args : Array Value} {below : List Frame} {meth : Method} {c : Code} {H : Heap} {locs : List Loc} {cells slots : Nat} {Q : State → Prop}
variable {cc : ByteArray} {nL pc : Nat} {ls : Array Slot} {rest : List Value} {own : String} {D : va_G} {cy : Nat → ClassId} {B : Nat → Nat → Nat} {ids : List (Nat × Nat)} {A : Nat → Prop} {z : St} {cs : va_W} {a k j : Nat} {fs : List Value}
theorem zc_iast {n t0 : Nat} {f : Nat → Int32} {x v : Int32} (ht : (zty cy)[t0]? = some (cy t0, .int)) (F : zFk p m c cc nL s args own D cy A) (hr : zRC D cy B ids A s.heap z cs H locs) (i : Nat) (he : cs[i]? = some (a, .inl (cy t0, n, .inl f))) (hin : vp_in x n) (hdg : decode cc pc = .ok (.iastore, 1))
    (kk : ∀ (H1 : Heap) (locs1 : List Loc), zRC D cy B ids A s.heap z (cs.set i (a, .inl (cy t0, n, .inl (upd f x.toNatClampNeg v)))) H1 locs1 → W p l e R s m args below meth c H1 locs1 cells slots Q (F0 m (pc + 1) ls rest)) : W p l e R s m args below meth c H locs cells slots Q (F0 m pc ls (.int v :: .int x :: .ref a :: rest)) := by
  obtain ⟨hx, hb, hml, hown, hG, hK, hN, hA⟩ := F
  refine va_iast hx hb hK hr.1 hr.2.1 hr.2.2.1 _ t0 (zcat zw_len he) ht hin hdg (fun H1 locs1 hP hD hS => kk H1 locs1 ⟨?_, ?_, hS, hr.2.2.2⟩)
  · rw [zcat_set zw_len] at hP; exact hP
  · rw [zcat_set zw_len] at hD; exact hD
theorem zc_astq {Cn : String} {T : u_T} {N n t0 v ci : Nat} {vs : List Value} {f : Nat → Option Nat} {x : Int32} (ht : (zty cy)[t0]? = some (cy t0, .object Cn)) (hc : vwCl[ci]? = some (Cn, T, N)) (F : zFk p m c cc nL s args own D cy A) (hr : zRC D cy B ids A s.heap z cs H locs) (i qk : Nat) (he : cs[i]? = some (a, .inl (cy t0, n, .inr (.inr (.inr (.inr f)))))) (hv : cs[qk]? = some (v, .inr (ci, vs))) (hin : vp_in x n) (hdg : decode cc pc = .ok (.aastore, 1))
    (kk : ∀ (H1 : Heap) (locs1 : List Loc), zRC D cy B ids A s.heap z (cs.set i (a, .inl (cy t0, n, .inr (.inr (.inr (.inr (va_up f x.toNatClampNeg (some v)))))))) H1 locs1 → W p l e R s m args below meth c H1 locs1 cells slots Q (F0 m (pc + 1) ls rest)) : W p l e R s m args below meth c H locs cells slots Q (F0 m pc ls (.ref v :: .int x :: .ref a :: rest)) := by
  obtain ⟨hx, hb, hml, hown, hG, hK, hN, hA⟩ := F
  refine va_astq (r := (Cn, T, N)) hx hb hK hr.1 hr.2.1 hr.2.2.1 _ t0 _ ci (zcat zw_len he) ht (zcat zw_len hv) hc hin hdg (fun H1 locs1 hP hD hS => kk H1 locs1 ⟨?_, ?_, hS, hr.2.2.2⟩)
  · rw [zcat_set zw_len] at hP; exact hP
  · rw [zcat_set zw_len] at hD; exact hD
theorem zc_aldq {C : String} {n t0 : Nat} {f : Nat → Option Nat} {x : Int32} (ht : (zty cy)[t0]? = some (cy t0, .object C)) (F : zFk p m c cc nL s args own D cy A) (hr : zRC D cy B ids A s.heap z cs H locs) (i : Nat) (he : cs[i]? = some (a, .inl (cy t0, n, .inr (.inr (.inr (.inr f)))))) (hin : vp_in x n) (hdg : decode cc pc = .ok (.aaload, 1))
    (kk : W p l e R s m args below meth c H locs cells slots Q (F0 m (pc + 1) ls (va_rf (f x.toNatClampNeg) :: rest))) : W p l e R s m args below meth c H locs cells slots Q (F0 m pc ls (.int x :: .ref a :: rest)) := by
  obtain ⟨hx, hb, hml, hown, hG, hK, hN, hA⟩ := F
  exact va_aldq hx hb hK hr.1 _ t0 (zcat zw_len he) ht hin hdg kk
theorem zc_alen {t0 : Nat} {ty : FieldType} {y : vp_A} {v : Int32} (ht : (zty cy)[t0]? = some (cy t0, ty)) (F : zFk p m c cc nL s args own D cy A) (hr : zRC D cy B ids A s.heap z cs H locs) (i : Nat) (he : cs[i]? = some (a, .inl (cy t0, y))) (hv : Int32.ofNat y.1 = v) (hdg : decode cc pc = .ok (.arraylength, 1))
    (kk : W p l e R s m args below meth c H locs cells slots Q (F0 m (pc + 1) ls (.int v :: rest))) : W p l e R s m args below meth c H locs cells slots Q (F0 m pc ls (.ref a :: rest)) := by
  obtain ⟨hx, hb, hml, hown, hG, hK, hN, hA⟩ := F
  exact va_alen hx hb hK hr.1 _ t0 (zcat zw_len he) ht hv hdg kk
end ZK4
