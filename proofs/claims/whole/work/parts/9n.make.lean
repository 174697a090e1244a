/-! the model: a new datagram -/
theorem zm_newN {w : St} {T : Tp} {K : Int32 → Int32 → Int32 → Prop} {g : Sg} {X TS TA TB : List Nat} {N : Nat} (hc : zTc T) (hX : X.length ≤ 100) (h : zNm w T K g X TS TA TB) (hN : 18 < N) : ∃ w' d, fX19_newDatagram N 0 w = some (Int32.ofNat d, w') ∧ d < 2400 ∧ d ∉ X ∧ zNm w' T K g (d :: X) TS TA TB ∧ (∀ k, k < 18 → md w' d k = if k = 10 ∨ k = 11 then -1 else 0) ∧ zKm X w w' ∧ zFr 0x100000000000000000000000000000000040000000000000000000000000000000000000000000000000000000000000000000000000000000000000000000000000000000000000000000000000000000000000000000000000000000000000000000000000000000000000000000000000000000000000000000000000000000000000000000000000000000000000000000000000000000000000000000000000000000000000000 w w' ∧ (∀ k o i, zgL w' k o i = zgL w k o i) ∧ (∀ k' j o, ¬ (k' = 19 ∧ j = 2) → zgI w' k' j o = zgI w k' j o) := by
  obtain ⟨ms, mw, h1, h2, h3⟩ := h
  have hlen := hold_len hc hX h1 h2
  obtain ⟨⟨p1, p2, p3, pbd⟩, p4, p5, p6, p7, p8⟩ := h3
  have hne : ∃ x, x < 2400 ∧ x ∉ hold X ms mw := by
    apply Classical.byContradiction
    intro hn
    have := zlen_sub List.nodup_range (fun x hx => Classical.byContradiction (fun hx2 => hn ⟨x, List.mem_range.mp hx, hx2⟩) : ∀ x, x ∈ List.range 2400 → x ∈ hold X ms mw)
    simp at this
    omega
  obtain ⟨k, c, k1, k2, k3, k4, k5, k6⟩ := zFs_pop p3 hne (by omega)
  let w1 : St := zsI w 19 2 0 (Int32.ofNat k)
  let cp : Nat → Nat → Int32 := fun i j => if 18 * c ≤ j ∧ j < 18 * c + i then 0 else zgA w 172 0 j
  let w2 : St := zsC w1 172 0 (cp 18)
  let w3 : St := zsA (zsA w2 172 0 (18 * c + 10) (-1)) 172 0 (18 * c + 11) (-1)
  have e0 : zsC w1 172 0 (cp 0) = w1 := by
    have : cp 0 = zgA w1 172 0 := funext (fun j => by show (if _ then _ else _) = _; rw [if_neg (by omega)]; rfl)
    rw [this]; exact zsC_id w1 172 0
  have run : fX19_newDatagram N 0 w = some (Int32.ofNat c, w3) := by
    unfold fX19_newDatagram
    rw [k2, zl_e]
    have e2 : zgI (zsI w 19 2 0 (Int32.ofNat k)) 19 2 0 = Int32.ofNat k := by rw [zgI_sI, if_pos ⟨rfl, rfl, rfl⟩]
    have e3 : zgA (zsI w 19 2 0 (Int32.ofNat k)) 173 0 k = Int32.ofNat c := k3
    rw [e2, zkk (by omega) (by omega), zoC (by omega), zl_e, e3]
    refine Eq.trans ?_ (zlp0 (G := fun n' i => fX19_newDatagram_22 N n' 0 (Int32.ofNat c) (Int32.ofNat i) (zsC w1 172 0 (cp i))) (r := some (Int32.ofNat c, w3)) (k := 18) (n := N) hN ?_ ?_)
    · show _ = fX19_newDatagram_22 N N 0 (Int32.ofNat c) (Int32.ofNat 0) (zsC w1 172 0 (cp 0))
      rw [e0]; rfl
    · intro n' i hi
      show fX19_newDatagram_22b N (fX19_newDatagram_22 N n') 0 (Int32.ofNat c) (Int32.ofNat i) (zsC w1 172 0 (cp i)) = _
      unfold fX19_newDatagram_22b
      rw [show (18 : Int32) = Int32.ofNat 18 from rfl, if_neg (by rw [zo_le (by omega) (by omega)]; omega), show Int32.ofNat 18 * Int32.ofNat c + Int32.ofNat i = Int32.ofNat (18 * c + i) from zmu18, zkk (by omega) (by omega), zoC (by omega), zl_e, zsA_C2, zl_e, zo_i1]
      have : (fun j => if j = 18 * c + i then (0 : Int32) else cp i j) = cp (i + 1) := by
        funext j
        show (if _ then _ else (if _ then _ else _)) = (if _ then _ else _)
        by_cases e : j = 18 * c + i
        · rw [if_pos e, if_pos (by omega)]
        · rw [if_neg e]
          by_cases e2 : 18 * c ≤ j ∧ j < 18 * c + i
          · rw [if_pos e2, if_pos (by omega)]
          · rw [if_neg e2, if_neg (by omega)]
      rw [this]
    · intro n'
      show fX19_newDatagram_22b N (fX19_newDatagram_22 N n') 0 (Int32.ofNat c) (Int32.ofNat 18) (zsC w1 172 0 (cp 18)) = _
      unfold fX19_newDatagram_22b
      rw [show (18 : Int32) = Int32.ofNat 18 from rfl, if_pos (Int32.le_refl _), show (10 : Int32) = Int32.ofNat 10 from rfl, zm_set k4 (by omega), zc_e, show (11 : Int32) = Int32.ofNat 11 from rfl, zm_set k4 (by omega), zc_e]
  have m2 : ∀ e j, j < 18 → md w2 e j = if e = c then 0 else md w e j := fun e j hj => by
    show zgA (zsC w1 172 0 (cp 18)) 172 0 (18 * e + j) = _
    rw [zgA_sCs]
    show (if _ then _ else _) = _
    by_cases q : e = c
    · rw [if_pos (by omega), if_pos q]
    · rw [if_neg (by omega), if_neg q]; rfl
  have m3 : ∀ e j, j < 18 → md w3 e j = if e = c then (if j = 10 ∨ j = 11 then -1 else 0) else md w e j := fun e j hj => by
    show md (zsA (zsA w2 172 0 (18 * c + 10) (-1)) 172 0 (18 * c + 11) (-1)) e j = _
    rw [md_set (by omega) hj, md_set (by omega) hj, m2 e j hj]
    by_cases q : e = c
    · rw [if_pos q, if_pos q]
      by_cases j11 : j = 11
      · rw [if_pos ⟨q, j11⟩, if_pos (Or.inr j11)]
      · rw [if_neg (fun y => j11 y.2)]
        by_cases j10 : j = 10
        · rw [if_pos ⟨q, j10⟩, if_pos (Or.inl j10)]
        · rw [if_neg (fun y => j10 y.2), if_neg (fun y => by rcases y with y | y; exact j10 y; exact j11 y)]
    · rw [if_neg (fun y => q y.1), if_neg (fun y => q y.1), if_neg q, if_neg q]
  have A3 : ∀ k o i, k ≠ 172 → zgA w3 k o i = zgA w k o i := fun k o i n => by
    show zgA (zsA (zsA (zsC w1 172 0 (cp 18)) 172 0 _ _) 172 0 _ _) k o i = _
    rw [zgA_sA, if_neg (fun y => n y.1), zgA_sA, if_neg (fun y => n y.1), zgA_sC, if_neg (fun y => n y.1)]
    rfl
  have I3 : ∀ k' j o, ¬ (k' = 19 ∧ j = 2) → zgI w3 k' j o = zgI w k' j o := fun k' j o n => by
    show zgI (zsI w 19 2 0 (Int32.ofNat k)) k' j o = _
    rw [zgI_sI, if_neg (fun y => n ⟨y.1, y.2.1⟩)]
  have f : zFr 0x100000000000000000000000000000000040000000000000000000000000000000000000000000000000000000000000000000000000000000000000000000000000000000000000000000000000000000000000000000000000000000000000000000000000000000000000000000000000000000000000000000000000000000000000000000000000000000000000000000000000000000000000000000000000000000000000000 w w3 := zFr_A (zFr_A (zFr_C (zFr_I (zFr_rf _ _) (by decide)) (by decide)) (by decide)) (by decide)
  have kk : zKm (hold X ms mw) w w3 := ⟨fun e j he hj => by rw [m3 e j hj, if_neg (fun y => k5 (by rw [← y]; exact he))], fun k i => A3 174 k i (by simp), fun k i => A3 178 k i (by simp), fun _ _ _ => rfl⟩
  have gs : ∀ e, e ∈ hold X ms mw → mgs w3 e = mgs w e ∧ mga w3 e = mga w e := fun e he => by
    unfold mgs mga
    rw [kk.1 e 10 he (by omega), kk.1 e 11 he (by omega)]
    exact ⟨rfl, rfl⟩
  have fm1 : (hold X ms mw).filterMap (mgs w3) = (hold X ms mw).filterMap (mgs w) := zfm_cg (fun e he => (gs e he).1)
  have fm2 : (hold X ms mw).filterMap (mga w3) = (hold X ms mw).filterMap (mga w) := zfm_cg (fun e he => (gs e he).2)
  have c10 : md w3 c 10 = -1 := by rw [m3 c 10 (by omega), if_pos rfl, if_pos (Or.inl rfl)]
  have c11 : md w3 c 11 = -1 := by rw [m3 c 11 (by omega), if_pos rfl, if_pos (Or.inr rfl)]
  have n1 : mgs w3 c = none := by unfold mgs; rw [if_pos c10]
  have n2 : mga w3 c = none := by unfold mga; rw [if_pos c11]
  refine ⟨w3, c, run, k4, fun y => k5 (hold_X c y), ⟨ms, mw, zFm_cg (fun i => A3 188 0 i (by simp)) (I3 19 23 0 (by simp)) (fun e D he => zKm_MD kk (hold_mem.mpr (Or.inr (Or.inl he)))) h1, ⟨fun q hq => zWqm_cg (I3 18 12 q (by simp)) (fun i => A3 170 q i (by simp)) (fun i => A3 171 q i (by simp)) (fun e D he => zKm_MD kk (hold_mem.mpr (Or.inr (Or.inr ⟨q, tv_192 hc hq, he⟩)))) (h2.1 q hq), h2.2⟩, ?_⟩, fun j hj => by rw [m3 c j hj, if_pos rfl], zKm_sub hold_X kk, f, fun _ _ _ => rfl, I3⟩
  rw [hold_cons]
  refine ⟨⟨List.nodup_cons.mpr ⟨k5, p1⟩, fun e he => ?_, ?_, pbd⟩, fun e he => ?_, ?_, ?_, ?_, fun s hs => ?_⟩
  · rcases List.mem_cons.mp he with e' | he
    · rw [e']; exact k4
    · exact p2 e he
  · have eI : zgI w3 19 2 0 = Int32.ofNat k := by
      show zgI (zsI w 19 2 0 (Int32.ofNat k)) 19 2 0 = _
      rw [zgI_sI, if_pos ⟨rfl, rfl, rfl⟩]
    have e173 : (fun i => zgA w3 173 0 i) = (fun i => zgA w 173 0 i) := funext (fun i => A3 173 0 i (by simp))
    rw [eI, e173]
    refine k6 _ (fun y => ?_)
    rw [List.mem_cons]
    constructor
    · intro q; exact ⟨fun z => q (Or.inr z), fun z => q (Or.inl z)⟩
    · rintro ⟨a, b⟩ (z | z)
      · exact b z
      · exact a z
  · rcases List.mem_cons.mp he with e' | he
    · rw [e', c10, c11]; exact ⟨Or.inl rfl, Or.inl rfl⟩
    · rw [kk.1 e 10 he (by omega), kk.1 e 11 he (by omega)]
      exact p4 e he
  · rw [List.filterMap_cons_none n1, fm1, I3 19 7 0 (by simp)]
    have f1 : (fun i => zgA w3 176 0 i) = (fun i => zgA w 176 0 i) := funext (fun i => A3 176 0 i (by simp))
    have f2 : (fun i => zgA w3 177 0 i) = (fun i => zgA w 177 0 i) := funext (fun i => A3 177 0 i (by simp))
    rw [f1, f2]; exact p5
  · rw [List.filterMap_cons_none n2, fm2, I3 19 11 0 (by simp)]
    have f1 : (fun i => zgA w3 179 0 i) = (fun i => zgA w 179 0 i) := funext (fun i => A3 179 0 i (by simp))
    have f2 : (fun i => zgA w3 180 0 i) = (fun i => zgA w 180 0 i) := funext (fun i => A3 180 0 i (by simp))
    rw [f1, f2]; exact p6
  · rw [List.filterMap_cons_none n1, fm1, I3 19 17 0 (by simp)]
    have f1 : (fun i => zgA w3 183 0 i) = (fun i => zgA w 183 0 i) := funext (fun i => A3 183 0 i (by simp))
    have f2 : (fun i => zgA w3 185 0 i) = (fun i => zgA w 185 0 i) := funext (fun i => A3 185 0 i (by simp))
    rw [f1, f2, zbks_cg (w := w) (L := (hold X ms mw).filterMap (mgs w) ++ TS) (fun _ _ => Iff.rfl) (fun s _ _ => A3 174 0 _ (by simp))]
    exact p7
  · rw [List.filterMap_cons_none n1, fm1] at hs
    have : msg w3 s 8 = msg w s 8 := A3 174 0 _ (by simp)
    rw [this]
    exact p8 s hs
/-- a datagram is made by a box: its number is how many it made before -/
theorem zm_makeN {w : St} {T : Tp} {K : Int32 → Int32 → Int32 → Prop} {g : Sg} {X TS TA TB : List Nat} {b N : Nat} {kind len source goal : Int32} (hc : zTc T) (hX : X.length ≤ 100) (h : zNm w T K g X TS TA TB) (hN : 18 < N) : ∃ w' d, fX19_make N 0 b kind len source goal w = some (Int32.ofNat d, w') ∧ d < 2400 ∧ d ∉ X ∧ zNm w' T K g (d :: X) TS TA TB ∧ (∀ k, k < 18 → md w' d k = if k = 10 ∨ k = 11 then -1 else if k = 0 then source else if k = 1 then goal else if k = 2 then kind else if k = 3 then zgI w 12 4 b else if k = 4 then (if kind = 0 ∨ kind = 1 then 64 else 1) else if k = 5 then len else 0) ∧ zKm X w w' ∧ zFr 0x100000000000000000000000000000000040000000000000000000000000000000000000000000000000000000000000000000000000000000000000000000000000000000000000010000000000000000000000000000000000000000000000000000000000000000000000000000000000000000000000000000000000000000000000000000000000000000000000000000000000000000000000000000000000000000000000000 w w' ∧ (∀ k' j o, ¬ (k' = 19 ∧ j = 2) → zgI w' k' j o = if k' = 12 ∧ j = 4 ∧ o = b then zgI w 12 4 b + 1 else zgI w k' j o) ∧ (∀ k o i, zgL w' k o i = zgL w k o i) := by
  obtain ⟨w1, d, r1, r2, r3, r4, r5, r6, r7, r8, r9⟩ := zm_newN (N := N) hc hX h hN
  have n0 := zm_setN (k := 0) (v := source) hc r4 (by omega) (by omega) (by omega)
  have n1 := zm_setN (k := 1) (v := goal) hc n0.1 (by omega) (by omega) (by omega)
  have n2 := zm_setN (k := 2) (v := kind) hc n1.1 (by omega) (by omega) (by omega)
  have n3 := zm_setN (k := 3) (v := zgI w 12 4 b) hc n2.1 (by omega) (by omega) (by omega)
  let w5 : St := zsA (zsA (zsA (zsA w1 172 0 (18 * d + 0) source) 172 0 (18 * d + 1) goal) 172 0 (18 * d + 2) kind) 172 0 (18 * d + 3) (zgI w 12 4 b)
  let w6 : St := zsI w5 12 4 b (zgI w 12 4 b + 1)
  let li : Int32 := if kind = 0 ∨ kind = 1 then 64 else 1
  have f6 : zFr 0x10000000000000000000000000000000000000000000000000000000000000000000000000000000000000000000000000000000000000000000000000000000000000000000000000000000000000000000000000000000000000000000000000 w5 w6 := zFr_I (zFr_rf _ _) (by decide)
  have n6 : zNm w6 T K g (d :: X) TS TA TB := zNm_fr f6 (by decide) hc (fun _ _ _ => rfl) n3.1
  have k6 : zKm X w5 w6 := zKm_fr f6 (by decide) (fun _ _ _ => rfl)
  have n7 := zm_setN (k := 4) (v := li) hc n6 (by omega) (by omega) (by omega)
  have n8 := zm_setN (k := 5) (v := len) hc n7.1 (by omega) (by omega) (by omega)
  let w8 : St := zsA (zsA w6 172 0 (18 * d + 4) li) 172 0 (18 * d + 5) len
  have i5 : zgI w5 12 4 b = zgI w 12 4 b := r9 12 4 b (by simp)
  have i1 : zgI w1 12 4 b = zgI w 12 4 b := r9 12 4 b (by simp)
  have tail : ∀ v, v = li → fX19_make_72 N 0 len (Int32.ofNat d) 0 (Int32.ofNat d) 4 v w6 = some (Int32.ofNat d, w8) := fun v e => by
    unfold fX19_make_72
    rw [e, show (4 : Int32) = Int32.ofNat 4 from rfl, zm_set r2 (by omega), zc_e, show (5 : Int32) = Int32.ofNat 5 from rfl, zm_set r2 (by omega), zc_e]
  refine ⟨w8, d, ?_, r2, r3, n8.1, ?_, ?_, ?_, ?_, ?_⟩
  · unfold fX19_make
    rw [r1, zc_e]
    have s0 : ∀ {v : Int32} {a : St}, fX19_set N 0 (Int32.ofNat d) 0 v a = some (0, zsA a 172 0 (18 * d + 0) v) := zm_set (k := 0) r2 (by omega)
    have s1 : ∀ {v : Int32} {a : St}, fX19_set N 0 (Int32.ofNat d) 1 v a = some (0, zsA a 172 0 (18 * d + 1) v) := zm_set (k := 1) r2 (by omega)
    have s2 : ∀ {v : Int32} {a : St}, fX19_set N 0 (Int32.ofNat d) 2 v a = some (0, zsA a 172 0 (18 * d + 2) v) := zm_set (k := 2) r2 (by omega)
    have s3 : ∀ {v : Int32} {a : St}, fX19_set N 0 (Int32.ofNat d) 3 v a = some (0, zsA a 172 0 (18 * d + 3) v) := zm_set (k := 3) r2 (by omega)
    rw [s0, zc_e, s1, zc_e, s2, zc_e, s3, zc_e]
    have eq : zgI (zsA (zsA (zsA w1 172 0 (18 * d + 0) source) 172 0 (18 * d + 1) goal) 172 0 (18 * d + 2) kind) 12 4 b = zgI w 12 4 b := i1
    have eq2 : zgI (zsA (zsA (zsA (zsA w1 172 0 (18 * d + 0) source) 172 0 (18 * d + 1) goal) 172 0 (18 * d + 2) kind) 172 0 (18 * d + 3) (zgI w 12 4 b)) 12 4 b = zgI w 12 4 b := i1
    rw [eq, eq2, zl_e]
    by_cases c0 : kind = 0
    · rw [if_pos c0]; exact tail 64 (by show _ = (if _ then _ else _); rw [if_pos (Or.inl c0)])
    · rw [if_neg c0]
      by_cases c1 : kind = 1
      · rw [if_neg (fun y => y c1)]; exact tail 64 (by show _ = (if _ then _ else _); rw [if_pos (Or.inr c1)])
      · rw [if_pos c1]; exact tail 1 (by show _ = (if _ then _ else _); rw [if_neg (fun y => by rcases y with y | y; exact c0 y; exact c1 y)])
  · intro k hk
    show md (zsA (zsA w6 172 0 (18 * d + 4) li) 172 0 (18 * d + 5) len) d k = _
    rw [md_set (by omega) hk, md_set (by omega) hk]
    show (if _ then _ else if _ then _ else md w5 d k) = _
    show (if _ then _ else if _ then _ else md (zsA (zsA (zsA (zsA w1 172 0 (18 * d + 0) source) 172 0 (18 * d + 1) goal) 172 0 (18 * d + 2) kind) 172 0 (18 * d + 3) (zgI w 12 4 b)) d k) = _
    rw [md_set (by omega) hk, md_set (by omega) hk, md_set (by omega) hk, md_set (by omega) hk, r5 k hk]
    rcases (by omega : k = 0 ∨ k = 1 ∨ k = 2 ∨ k = 3 ∨ k = 4 ∨ k = 5 ∨ 5 < k) with e | e | e | e | e | e | e
    · subst e; simp
    · subst e; simp
    · subst e; simp
    · subst e; simp
    · subst e; simp; rfl
    · subst e; simp
    · have q0 : k ≠ 0 := by omega
      have q1 : k ≠ 1 := by omega
      have q2 : k ≠ 2 := by omega
      have q3 : k ≠ 3 := by omega
      have q4 : k ≠ 4 := by omega
      have q5 : k ≠ 5 := by omega
      simp only [q0, q1, q2, q3, q4, q5, and_false, if_false]
  · have m : ∀ {a b : St}, zKm (d :: X) a b → zKm X a b := fun h => zKm_sub (fun e he => List.mem_cons_of_mem _ he) h
    have hd : ∀ {v : Int32} {j : Nat} {a : St}, j < 18 → zKm X a (zsA a 172 0 (18 * d + j) v) := fun {v j a} hj => ⟨fun e k he hk => by rw [md_set hj hk, if_neg (fun y => r3 (by rw [← y.1]; exact he))], fun k i => by rw [zgA_sA, if_neg (fun y => absurd y.1 (by decide))], fun k i => by rw [zgA_sA, if_neg (fun y => absurd y.1 (by decide))], fun _ _ _ => rfl⟩
    exact zKm_tr (zKm_tr (zKm_tr (zKm_tr (zKm_tr (zKm_tr (zKm_tr r6 (hd (by omega))) (hd (by omega))) (hd (by omega))) (hd (by omega))) k6) (hd (by omega))) (hd (by omega))
  · have f0 : zFr 0x100000000000000000000000000000000040000000000000000000000000000000000000000000000000000000000000000000000000000000000000000000000000000000000000010000000000000000000000000000000000000000000000000000000000000000000000000000000000000000000000000000000000000000000000000000000000000000000000000000000000000000000000000000000000000000000000000 w w1 := zFr_w r7 (by decide)
    exact zFr_A (zFr_A (zFr_I (zFr_A (zFr_A (zFr_A (zFr_A f0 (by decide)) (by decide)) (by decide)) (by decide)) (by decide)) (by decide)) (by decide)
  · intro k' j o n
    show zgI (zsI w5 12 4 b (zgI w 12 4 b + 1)) k' j o = _
    rw [zgI_sI]
    have : zgI w5 k' j o = zgI w k' j o := r9 k' j o n
    rw [this]
  · exact r8
