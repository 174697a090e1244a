/-! a stretch of bytes copied; a switch from 0 to 5 -/
def zsC (z : St) (k o : Nat) (g : Nat → Int32) : St := (z.1, z.2.1, fun k' o' i' => if k' = k ∧ o' = o then g i' else z.2.2.1 k' o' i', z.2.2.2)
abbrev zcpok (sp dp n : Int32) : Prop := ¬ sp < 0 ∧ ¬ dp < 0 ∧ ¬ n < 0 ∧ sp.toNatClampNeg + n.toNatClampNeg ≤ 1480 ∧ dp.toNatClampNeg + n.toNatClampNeg ≤ 1480
def zcp (z : St) (o0 o1 : Nat) (sp dp n : Int32) : St := zsC z 125 o1 (va_cpy (zgA z 125 o0) (zgA z 125 o1) sp.toNatClampNeg dp.toNatClampNeg n.toNatClampNeg)
theorem zgA_sC (z : St) (k o : Nat) (g : Nat → Int32) (k' o' i' : Nat) : zgA (zsC z k o g) k' o' i' = if k' = k ∧ o' = o then g i' else zgA z k' o' i' := rfl
theorem zgA_sCs (z : St) (k o : Nat) (g : Nat → Int32) : zgA (zsC z k o g) k o = g := by
  funext i
  rw [zgA_sC, if_pos ⟨rfl, rfl⟩]
theorem zgI_sC (z : St) (k o : Nat) (g : Nat → Int32) (k' j' o' : Nat) : zgI (zsC z k o g) k' j' o' = zgI z k' j' o' := rfl
theorem zgR_sC (z : St) (k o : Nat) (g : Nat → Int32) (k' j' o' : Nat) : zgR (zsC z k o g) k' j' o' = zgR z k' j' o' := rfl
theorem zgL_sC (z : St) (k o : Nat) (g : Nat → Int32) (k' j' o' : Nat) : zgL (zsC z k o g) k' j' o' = zgL z k' j' o' := rfl
theorem zgQ_sC (z : St) (k o : Nat) (g : Nat → Int32) (k' j' o' : Nat) : zgQ (zsC z k o g) k' j' o' = zgQ z k' j' o' := rfl
theorem zcel_sC {cy : Nat → ClassId} {B : Nat → Nat → Nat} {z : St} {k o : Nat} {g : Nat → Int32} (q : Nat × Nat) (hq : q ≠ (k, o)) : zcel cy B (zsC z k o g) q = zcel cy B z q := by
  obtain ⟨k', o'⟩ := q
  have hn := zne hq
  by_cases h : k' < 100
  · rw [zcel_o h, zcel_o h]
    rfl
  · rw [zcel_a (Nat.not_lt.mp h), zcel_a (Nat.not_lt.mp h)]
    have h2 : zgA (zsC z k o g) k' o' = zgA z k' o' := by
      funext x
      rw [zgA_sC, if_neg hn]
    have h1 : zco B (zsC z k o g) k' o' = zco B z k' o' := by
      unfold zco
      rw [h2]
      rfl
    rw [h1]
    rfl
theorem zbyte_fit {v : Int32} (h : vp_nar .byte v = v) : fits .byte (.int v) = true := by
  rw [← h, vp_nar_byte]
  exact pk_fb v
section ZCP
variable {p : Program} {l : Launch} {e : Env} {R : Room} {s : State} {m : MethodId} {args : Array Value} {below : List Frame} {meth : Method} {c : Code} {H : Heap} {locs : List Loc} {cells slots : Nat} {Q : State → Prop}
variable {cc : ByteArray} {nL pc : Nat} {ls : Array Slot} {rest : List Value} {own : String} {D : va_G} {cy : Nat → ClassId} {B : Nat → Nat → Nat} {ids : List (Nat × Nat)} {A : Nat → Prop} {z : St}
theorem zr_copy {index o0 o1 : Nat} {sp dp n : Int32} (hml : c.maxLocals = ls.size) (hl : Cond.methodLink own index arraycopyName ∈ zGW) (hnat : Cond.native arraycopyName ∈ zGW) (hstat : Cond.static arraycopyName ∈ zGW) (hini : Cond.initialized "java/lang/System" ∈ zGW) (F : zFx p m c cc nL s args own D cy B ids A) (hm0 : (125, o0) ∈ ids) (hm1 : (125, o1) ∈ ids) (hr : zRep D cy B ids A s.heap z H locs) (hok : zcpok sp dp n)
    (hframes : 1 ≤ R.frames) (hlocals : (rest.map fun v => v.category).sum + (nativeFrameWords "java/lang/System" "arraycopy" 5 + 11) ≤ R.locals) (hdg : decode cc pc = .ok (.invokestatic index, 3))
    (kk : ∀ (H1 : Heap) (locs1 : List Loc) (z1 : St), z1 = zcp z o0 o1 sp dp n → zRep D cy B ids A s.heap z1 H1 locs1 → W p l e R s m args below meth c H1 locs1 cells slots Q (F0 m (pc + 3) ls rest)) : W p l e R s m args below meth c H locs cells slots Q (F0 m pc ls (.int n :: .int dp :: .ref (B 125 o1) :: .int sp :: .ref (B 125 o0) :: rest)) := by
  obtain ⟨hx, hb, hml0, hown, hG, hK, hN, hnd, hcl, hD⟩ := F
  obtain ⟨q0, h0, h1⟩ := zw_at (cy := cy) (B := B) z hm0
  obtain ⟨q1, g0, g1⟩ := zw_at (cy := cy) (B := B) z hm1
  have hco : ∀ (z : St) (o : Nat), zcel cy B z (125, o) = .inl (cy 0, (1480, .inl (zgA z 125 o))) := fun z o => by
    rw [zcel_a (by decide), zlen_d (by decide), zco_i (Or.inl rfl)]
    rfl
  rw [hco] at h1 g1
  obtain ⟨k1, k2, k3, k4, k5⟩ := hok
  refine va_copyi hx hb hml hown (hG _ hl) (hG _ hnat) (hG _ hstat) (hG _ hini) hK hr.1 (hD z) hr.2.1 q0 q1 0 0 h1 g1 rfl rfl rfl k1 k2 k3 k4 k5 (fun i _ => zbyte_fit (hr.2.2.2.2 125 o0 _ rfl)) hframes hlocals hdg (fun H1 locs1 hP _ hS => kk H1 locs1 _ rfl ⟨?_, hS, ?_⟩)
  · rw [← zgA_sCs z 125 o1 (va_cpy (zgA z 125 o0) (zgA z 125 o1) sp.toNatClampNeg dp.toNatClampNeg n.toNatClampNeg)] at hP
    rw [zw_set (z' := zcp z o0 o1 sp dp n) g0 hnd (by rw [hco]; rfl) (fun q hq => zcel_sC q hq)] at hP
    exact hP
  · refine ⟨hr.2.2.1, hr.2.2.2.1, fun k' o' i' hk => ?_⟩
    unfold zcp
    rw [zgA_sC]
    by_cases w : k' = 125 ∧ o' = o1
    · rw [if_pos w]
      unfold va_cpy
      by_cases v : dp.toNatClampNeg ≤ i' ∧ i' < dp.toNatClampNeg + n.toNatClampNeg
      · rw [if_pos v]; exact hr.2.2.2.2 125 o0 _ rfl
      · rw [if_neg v]; exact hr.2.2.2.2 125 o1 _ rfl
    · rw [if_neg w]; exact hr.2.2.2.2 k' o' i' hk
end ZCP
theorem zti_ne {x : Int32} {n : Nat} (hn : n < 2 ^ 31) (h : ¬ x = nI n) : x.toInt ≠ (n : Int) := fun q => h (by
  apply Int32.toInt_inj.mp
  rw [q, nI_toInt hn])
theorem zsw0_5 {x : Int32} (c0 : ¬ x = (0 : Int32)) (c1 : ¬ x = (1 : Int32)) (c2 : ¬ x = (2 : Int32)) (c3 : ¬ x = (3 : Int32)) (c4 : ¬ x = (4 : Int32)) (c5 : ¬ x = (5 : Int32)) : x.toInt < 0 ∨ 5 < x.toInt := by
  have h0 := zti_ne (n := 0) (by decide) c0
  have h1 := zti_ne (n := 1) (by decide) c1
  have h2 := zti_ne (n := 2) (by decide) c2
  have h3 := zti_ne (n := 3) (by decide) c3
  have h4 := zti_ne (n := 4) (by decide) c4
  have h5 := zti_ne (n := 5) (by decide) c5
  omega
