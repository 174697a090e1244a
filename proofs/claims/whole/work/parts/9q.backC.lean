/-! the class: an error is answered -/
theorem zA_n {z : St} {k k' o i : Nat} {v : Int32} (h : k' ≠ k) : zgA (zsA z k o i v) k' = zgA z k' := by
  funext a b
  rw [zgA_sA, if_neg (fun y => h y.1)]
theorem zA_C {z : St} {k o : Nat} {f : Nat → Int32} : zgA (zsC z k o f) k o = f := zgA_sCs z k o f
theorem zA_Cn {z : St} {k o k' o' : Nat} {f : Nat → Int32} (h : ¬ (k' = k ∧ o' = o)) : zgA (zsC z k o f) k' o' = zgA z k' o' := funext (fun i => by rw [zgA_sC, if_neg h])
/-- a parcel is begun -/
def zBg (z : St) (x : Nat) (kind len : Int32) : St := zsI (zsI (zsI (zsI (zsI (zsI (zsI z 7 2 x kind) 7 4 x (if kind = 0 ∨ kind = 1 then 64 else 1)) 7 5 x 0) 7 9 x 0) 7 10 x 0) 7 6 x len) 7 7 x len
theorem zc_begin0 {z : St} {x N : Nat} {kind len : Int32} : fX7_begin N x kind len z = some (0, zBg z x kind len) := by
  unfold fX7_begin fX7_begin_15 fX7_begin_21 zBg
  rw [zl_e]
  by_cases c : kind = 0
  · rw [if_pos c, if_pos (Or.inl c), zl_e, zl_e, zl_e, zl_e, zl_e, zl_e]
  · by_cases c1 : kind = 1
    · rw [if_neg c, if_neg (fun y => y c1), if_pos (Or.inr c1), zl_e, zl_e, zl_e, zl_e, zl_e, zl_e]
    · rw [if_neg c, if_pos c1, if_neg (fun y => by rcases y with y | y; exact c y; exact c1 y), zl_e, zl_e, zl_e, zl_e, zl_e, zl_e]
theorem zBg_I {z : St} {x : Nat} {kind len : Int32} (j u : Nat) : zgI (zBg z x kind len) 7 j u = if u = x then (if j = 2 then kind else if j = 4 then (if kind = 0 ∨ kind = 1 then 64 else 1) else if j = 5 ∨ j = 9 ∨ j = 10 then 0 else if j = 6 ∨ j = 7 then len else zgI z 7 j u) else zgI z 7 j u := by
  unfold zBg
  by_cases c : u = x
  · subst c
    simp only [zgI_sI, true_and, and_true, if_true]
    rcases (by omega : j = 2 ∨ j = 4 ∨ j = 5 ∨ j = 9 ∨ j = 10 ∨ j = 6 ∨ j = 7 ∨ (j ≠ 2 ∧ j ≠ 4 ∧ j ≠ 5 ∧ j ≠ 9 ∧ j ≠ 10 ∧ j ≠ 6 ∧ j ≠ 7)) with e | e | e | e | e | e | e | e
    · subst e; simp
    · subst e; simp
    · subst e; simp
    · subst e; simp
    · subst e; simp
    · subst e; simp
    · subst e; simp
    · obtain ⟨e1, e2, e3, e4, e5, e6, e7⟩ := e
      simp only [e1, e2, e3, e4, e5, e6, e7, if_false, or_self]
  · simp only [zgI_sI, c, and_false, if_false]
theorem zBg_fr {M : Nat} {z : St} {x : Nat} {kind len : Int32} (hm : 0x6f40000000000000000000000000000000000000000000000000000000000000000000000000000000000000000000000000000000000000000 &&& M = 0x6f40000000000000000000000000000000000000000000000000000000000000000000000000000000000000000000000000000000000000000) : zFr M z (zBg z x kind len) := by
  have f : zFr 0x6f40000000000000000000000000000000000000000000000000000000000000000000000000000000000000000000000000000000000000000 z (zBg z x kind len) := by
    unfold zBg
    exact zFr_I (zFr_I (zFr_I (zFr_I (zFr_I (zFr_I (zFr_I (zFr_rf _ _) (by decide)) (by decide)) (by decide)) (by decide)) (by decide)) (by decide)) (by decide)
  exact zFr_w f hm
theorem zc_nextNumber {z : St} {b N : Nat} : fX1_nextNumber N b z = some (zgA z 113 b 2, zsA z 113 b 2 (zgA z 113 b 2 + 1)) := by
  unfold fX1_nextNumber
  have e2 : ∀ {β : Type} (k : Option β), zk (2 : Int32) 8 k = k := fun k => zkk (i := 2) (by decide) (by decide) k
  rw [e2, e2, zl_e, e2, show Int32.toNatClampNeg (2 : Int32) = 2 from rfl, zgA_sA, if_pos ⟨rfl, rfl, rfl⟩, Int32.add_sub_cancel]
/-- an error's datagram: over port q, about D, with a number, why, and what lay in the bytes -/
def dErr (q : Nat) (D : Dg) (num why : Int32) (old : Nat → Int32) : Dg := (fun j => if j = 0 then zad q else if j = 1 then D.1 0 else if j = 3 then num else if j = 4 then 64 else if j = 6 ∨ j = 7 then 36 else 0, p2 (p2 (p2 (p4 (p4 old 0 (D.1 0)) 4 (D.1 1)) 8 (g2 D.2 0)) 10 (g2 D.2 2)) 12 why)
theorem zc_back {z : St} {T : Tp} {E : Ev} {g : Sg} {X : List Nat} {b i x N : Nat} {D : Dg} {why : Int32} (h : zNC z T E g X) (hb : b < tb T) (hi : i < tp T b) (hx : x ≠ 0) (hD : zPC 11 z x D) (hk : D.1 2 = 1) (hDw : zDw D) (hf : df D = 0) (hdl : 4 ≤ dl D) (hown : tha T b (D.1 0) = false) (h10 : D.1 10 = Int32.ofNat i) (hN : 6 < N) :
    ∃ z', fX11_comeBack N 0 b x why z = some (0, z') ∧ zNC z' T E g X ∧ zPC 11 z' 0 (dErr (tq T b i) D (zgA z 113 b 2) why (zgA z 125 0)) ∧ zgI z' 11 15 0 = 1 ∧ (∀ u, u ≠ 0 → (∀ j, zgI z' 7 j u = zgI z 7 j u) ∧ ∀ i, zgA z' 125 u i = zgA z 125 u i) ∧ (∀ c k, zgA z' 113 c k = if c = b ∧ k = 2 then zgA z 113 b 2 + 1 else zgA z 113 c k) ∧ zFr 0x200200000000000000000000000000000000000000000000000000000000000000000000000000000000000000000000000000000000000000000000000000000000000000000000000800000000000000000000000000000000000000000000000000000000000000006ff0000000000000000000000000000000000000000000000000000000000000000000000000000000000000000000000000000000000000000 z z' := by
  have hT := h.1
  have hc := h.2.1
  have hp6 := (hc.2.2.2.2.1 b hb).1
  obtain ⟨-, -, -, k3, kq, -⟩ := hT.2.1.2 b hb
  obtain ⟨v1, v2, v3⟩ := hc.2.2.2.2.2.2.1 b i hb hi
  obtain ⟨-, -, -, -, p4'⟩ := hT.2.2.2 _ v1
  have e13 : zgR z 11 13 0 = some 0 := hT.1.2.2.1
  have e2 : zgI z 7 2 x = 1 := (hD.1 2 (by omega) (by omega)).trans hk
  have e5 : zgI z 7 5 x = 0 := by rw [hD.1 5 (by omega) (by omega), hDw.2.1, hf]; rfl
  have e0 : zgI z 7 0 x = D.1 0 := hD.1 0 (by omega) (by omega)
  have e1 : zgI z 7 1 x = D.1 1 := hD.1 1 (by omega) (by omega)
  have e10 : zgI z 7 10 x = Int32.ofNat i := (hD.1 10 (by omega) (by omega)).trans h10
  have c0 : g2 (zgA z 125 x) 0 = g2 D.2 0 := by
    have a0 := hD.2 0 (by omega); have a1 := hD.2 1 (by omega)
    rw [hf] at a0 a1
    unfold g2; rw [a0, a1]
  have c2 : g2 (zgA z 125 x) 2 = g2 D.2 2 := by
    have a0 := hD.2 2 (by omega); have a1 := hD.2 3 (by omega)
    rw [hf] at a0 a1
    unfold g2; rw [a0, a1]
  let z1 : St := zBg z 0 0 36
  let z2 : St := zsI (zsI z1 7 0 0 (zad (tq T b i))) 7 1 0 (D.1 0)
  let z3 : St := zsA z2 113 b 2 (zgA z 113 b 2 + 1)
  let z4 : St := zsI z3 7 3 0 (zgA z 113 b 2)
  let z5 : St := zsC z4 125 0 (p4 (zgA z 125 0) 0 (D.1 0))
  let z6 : St := zsC z5 125 0 (p4 (p4 (zgA z 125 0) 0 (D.1 0)) 4 (D.1 1))
  let z7 : St := zsC z6 125 0 (p2 (p4 (p4 (zgA z 125 0) 0 (D.1 0)) 4 (D.1 1)) 8 (g2 D.2 0))
  let z8 : St := zsC z7 125 0 (p2 (p2 (p4 (p4 (zgA z 125 0) 0 (D.1 0)) 4 (D.1 1)) 8 (g2 D.2 0)) 10 (g2 D.2 2))
  let z9 : St := zsC z8 125 0 (p2 (p2 (p2 (p4 (p4 (zgA z 125 0) 0 (D.1 0)) 4 (D.1 1)) 8 (g2 D.2 0)) 10 (g2 D.2 2)) 12 why)
  let z10 : St := zsI z9 11 15 0 1
  have f1 : zFr 0x200200000000000000000000000000000000000000000000000000000000000000000000000000000000000000000000000000000000000000000000000000000000000000000000000800000000000000000000000000000000000000000000000000000000000000006ff0000000000000000000000000000000000000000000000000000000000000000000000000000000000000000000000000000000000000000 z z1 := zBg_fr (by decide)
  have f4 : zFr 0x200200000000000000000000000000000000000000000000000000000000000000000000000000000000000000000000000000000000000000000000000000000000000000000000000800000000000000000000000000000000000000000000000000000000000000006ff0000000000000000000000000000000000000000000000000000000000000000000000000000000000000000000000000000000000000000 z z4 := zFr_I (zFr_A (zFr_I (zFr_I f1 (by decide)) (by decide)) (by decide)) (by decide)
  have f10 : zFr 0x200200000000000000000000000000000000000000000000000000000000000000000000000000000000000000000000000000000000000000000000000000000000000000000000000800000000000000000000000000000000000000000000000000000000000000006ff0000000000000000000000000000000000000000000000000000000000000000000000000000000000000000000000000000000000000000 z z10 := zFr_I (zFr_C (zFr_C (zFr_C (zFr_C (zFr_C f4 (by decide)) (by decide)) (by decide)) (by decide)) (by decide)) (by decide)
  have R : ∀ k j o, k ≠ 7 → k ≠ 11 → k < 100 → zgR z10 k j o = zgR z k j o := fun _ _ _ _ _ _ => rfl
  have I4 : ∀ j u, zgI z4 7 j u = if u = 0 then (if j = 0 then zad (tq T b i) else if j = 1 then D.1 0 else if j = 3 then zgA z 113 b 2 else zgI z1 7 j u) else zgI z 7 j u := fun j u => by
    show zgI (zsI (zsA (zsI (zsI z1 7 0 0 _) 7 1 0 _) 113 b 2 _) 7 3 0 _) 7 j u = _
    rw [zgI_sI]
    show (if _ then _ else zgI (zsI (zsI z1 7 0 0 _) 7 1 0 _) 7 j u) = _
    rw [zgI_sI, zgI_sI]
    by_cases c : u = 0
    · subst c
      rcases (by omega : j = 0 ∨ j = 1 ∨ j = 3 ∨ (j ≠ 0 ∧ j ≠ 1 ∧ j ≠ 3)) with e | e | e | e
      · subst e; simp
      · subst e; simp
      · subst e; simp
      · obtain ⟨e1, e2, e3⟩ := e
        simp only [e1, e2, e3, false_and, and_false, if_false, if_true]
    · have : zgI z1 7 j u = zgI z 7 j u := by
        show zgI (zBg z 0 0 36) 7 j u = _
        rw [zBg_I, if_neg c]
      simp only [c, and_false, if_false]
      exact this
  have hrun : fX11_comeBack N 0 b x why z = some (0, z10) := by
    unfold fX11_comeBack
    rw [e2, if_neg (fun y => y rfl), e5, if_pos rfl, e0, zc_hasAddress hT hc _ hb hN, zc_e, hown, show (zbi false : Int32) = 0 from rfl, if_pos rfl, k3, e10, if_neg (by rw [zo_le (by omega) (by omega)]; omega), zkk (by omega) (by omega), zl_e, zoC (by omega), kq i hi]
    unfold fX11_comeBack_82
    rw [zo_e, zl_e, e13, zd_e, zc_begin0, zc_e]
    show zl (zgR z 11 13 0) _ = _
    rw [zl_e, e13, zd_e]
    have q4 : zgI z1 8 4 (tq T b i) = zad (tq T b i) := by
      show zgI (zBg z 0 0 36) 8 4 (tq T b i) = _
      have f : zFr 0x200200000000000000000000000000000000000000000000000000000000000000000000000000000000000000000000000000000000000000000000000000000000000000000000000800000000000000000000000000000000000000000000000000000000000000006ff0000000000000000000000000000000000000000000000000000000000000000000000000000000000000000000000000000000000000000 z (zBg z 0 0 36) := zBg_fr (by decide)
      rw [zFr_gI f (by decide) (by decide)]; exact p4'
    have b0 : zgI z1 7 0 x = D.1 0 := by
      show zgI (zBg z 0 0 36) 7 0 x = _
      rw [zBg_I, if_neg hx]; exact e0
    show zl (zsI z1 7 0 0 (zgI z1 8 4 (tq T b i))) _ = _
    rw [q4, zl_e]
    show zl (zgR z 11 13 0) _ = _
    rw [zl_e, e13, zd_e]
    have b1 : zgI (zsI z1 7 0 0 (zad (tq T b i))) 7 0 x = D.1 0 := by
      rw [zgI_sI, if_neg (fun y => hx y.2.2)]; exact b0
    rw [b1, zl_e]
    show zl (zgR z 11 13 0) _ = _
    rw [zl_e, e13, zc_nextNumber, zc_e, zd_e]
    have n2 : zgA (zsI (zsI z1 7 0 0 (zad (tq T b i))) 7 1 0 (D.1 0)) 113 b 2 = zgA z 113 b 2 := rfl
    rw [n2, zl_e]
    show zl (zgR z 11 13 0) _ = _
    rw [zl_e, e13, zd_e]
    have i0 : zgI z4 7 0 x = D.1 0 := by rw [I4, if_neg hx]; exact e0
    have i1 : zgI z4 7 1 x = D.1 1 := by rw [I4, if_neg hx]; exact e1
    have a4 : zgA z4 125 = zgA z 125 := by
      show zgA (zsA z2 113 b 2 _) 125 = _
      rw [zA_n (by decide)]; rfl
    show zc (fX7_put4 N 0 (Int32.ofNat 0) (zgI z4 7 0 x) z4) _ = _
    rw [i0, zc_put4 (by decide) (by omega), zc_e, a4]
    show zl (zgR z 11 13 0) _ = _
    rw [zl_e, e13, zd_e]
    show zc (fX7_put4 N 0 (Int32.ofNat 4) (zgI z4 7 1 x) z5) _ = _
    have a5 : zgA z5 125 0 = p4 (zgA z 125 0) 0 (D.1 0) := zA_C
    rw [i1, zc_put4 (by decide) (by omega), zc_e, a5]
    show zl (zgR z 11 13 0) _ = _
    rw [zl_e, e13]
    have a6 : zgA z6 125 0 = p4 (p4 (zgA z 125 0) 0 (D.1 0)) 4 (D.1 1) := zA_C
    have x6 : zgA z6 125 x = zgA z 125 x := by
      show zgA (zsC (zsC z4 125 0 _) 125 0 _) 125 x = _
      rw [zA_Cn (fun y => hx y.2), zA_Cn (fun y => hx y.2), a4]
    have g6 : fX7_get2 N x (0 : Int32) z6 = some (g2 (zgA z6 125 x) 0, z6) := zc_get2 (i := 0) (by decide)
    show zc (fX7_get2 N x (0 : Int32) z6) _ = _
    rw [g6, zc_e, zd_e, x6, c0]
    show zc (fX7_put2 N 0 (Int32.ofNat 8) (g2 D.2 0) z6) _ = _
    rw [zc_put2 (by decide), zc_e, a6]
    show zl (zgR z 11 13 0) _ = _
    rw [zl_e, e13]
    have a7 : zgA z7 125 0 = p2 (p4 (p4 (zgA z 125 0) 0 (D.1 0)) 4 (D.1 1)) 8 (g2 D.2 0) := zA_C
    have x7 : zgA z7 125 x = zgA z 125 x := by
      show zgA (zsC z6 125 0 _) 125 x = _
      rw [zA_Cn (fun y => hx y.2), x6]
    have g7 : fX7_get2 N x (2 : Int32) z7 = some (g2 (zgA z7 125 x) 2, z7) := zc_get2 (i := 2) (by decide)
    show zc (fX7_get2 N x (2 : Int32) z7) _ = _
    rw [g7, zc_e, zd_e, x7, c2]
    show zc (fX7_put2 N 0 (Int32.ofNat 10) (g2 D.2 2) z7) _ = _
    rw [zc_put2 (by decide), zc_e, a7]
    show zl (zgR z 11 13 0) _ = _
    rw [zl_e, e13, zd_e]
    have a8 : zgA z8 125 0 = p2 (p2 (p4 (p4 (zgA z 125 0) 0 (D.1 0)) 4 (D.1 1)) 8 (g2 D.2 0)) 10 (g2 D.2 2) := zA_C
    show zc (fX7_put2 N 0 (Int32.ofNat 12) why z8) _ = _
    rw [zc_put2 (by decide), zc_e, a8, zl_e]
  have I10 : ∀ j u, zgI z10 7 j u = zgI z4 7 j u := fun j u => by
    show zgI (zsI z9 11 15 0 1) 7 j u = _
    rw [zgI_sI, if_neg (by simp)]; rfl
  have A113 : ∀ c k, zgA z10 113 c k = if c = b ∧ k = 2 then zgA z 113 b 2 + 1 else zgA z 113 c k := fun c k => by
    show zgA (zsC (zsC (zsC (zsC (zsC z4 125 0 _) 125 0 _) 125 0 _) 125 0 _) 125 0 _) 113 c k = _
    rw [zA_Cn (by simp), zA_Cn (by simp), zA_Cn (by simp), zA_Cn (by simp), zA_Cn (by simp)]
    show zgA (zsA z2 113 b 2 _) 113 c k = _
    rw [zgA_sA]
    simp only [true_and]
    rfl
  have A125 : ∀ u, u ≠ 0 → zgA z10 125 u = zgA z 125 u := fun u hu => by
    show zgA (zsC (zsC (zsC (zsC (zsC z4 125 0 _) 125 0 _) 125 0 _) 125 0 _) 125 0 _) 125 u = _
    rw [zA_Cn (fun y => hu y.2), zA_Cn (fun y => hu y.2), zA_Cn (fun y => hu y.2), zA_Cn (fun y => hu y.2), zA_Cn (fun y => hu y.2)]
    show zgA (zsA z2 113 b 2 _) 125 u = _
    rw [zA_n (by decide)]; rfl
  have keep : ∀ u, u ≠ 0 → (∀ j, zgI z10 7 j u = zgI z 7 j u) ∧ ∀ i, zgA z10 125 u i = zgA z 125 u i := fun u hu => ⟨fun j => by rw [I10, I4, if_neg hu], fun i => congrFun (A125 u hu) i⟩
  refine ⟨z10, hrun, zNC_cg f10 (by decide) (fun u hu _ _ => keep u hu) (fun c => by rw [A113, if_neg (by simp)]) h, ⟨fun j hj h8 => ?_, fun k hk => ?_⟩, ?_, keep, A113, f10⟩
  · rw [I10, I4, if_pos rfl]
    have : zgI z1 7 j 0 = _ := zBg_I (z := z) (x := 0) (kind := 0) (len := 36) j 0
    rw [this, if_pos rfl]
    show _ = (if j = 0 then zad (tq T b i) else if j = 1 then D.1 0 else if j = 3 then zgA z 113 b 2 else if j = 4 then 64 else if j = 6 ∨ j = 7 then 36 else 0)
    rcases (by omega : j = 0 ∨ j = 1 ∨ j = 2 ∨ j = 3 ∨ j = 4 ∨ j = 5 ∨ j = 6 ∨ j = 7 ∨ j = 9 ∨ j = 10) with e | e | e | e | e | e | e | e | e | e
    · subst e; simp
    · subst e; simp
    · subst e; simp
    · subst e; simp
    · subst e; simp
    · subst e; simp
    · subst e; simp
    · subst e; simp
    · subst e; simp
    · subst e; simp
  · have : zgA z10 125 0 = p2 (p2 (p2 (p4 (p4 (zgA z 125 0) 0 (D.1 0)) 4 (D.1 1)) 8 (g2 D.2 0)) 10 (g2 D.2 2)) 12 why := by
      show zgA (zsC z8 125 0 _) 125 0 = _
      rw [zA_C]
    rw [this]
    have d0 : df (dErr (tq T b i) D (zgA z 113 b 2) why (zgA z 125 0)) = 0 := rfl
    rw [d0, Nat.zero_add]
    rfl
  · show zgI (zsI z9 11 15 0 1) 11 15 0 = 1
    rw [zgI_sI, if_pos ⟨rfl, rfl, rfl⟩]
