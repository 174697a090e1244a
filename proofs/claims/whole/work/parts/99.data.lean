/-! the model's datagrams: reading, writing, copying, dropping -/
def md (w : St) (d k : Nat) : Int32 := zgA w 172 0 (18 * d + k)
def msg (w : St) (s k : Nat) : Int32 := zgA w 174 0 (10 * s + k)
def mgs (w : St) (d : Nat) : Option Nat := if md w d 10 = -1 then none else some (md w d 10).toNatClampNeg
def mga (w : St) (d : Nat) : Option Nat := if md w d 11 = -1 then none else some (md w d 11).toNatClampNeg
/-- the books that segments hold -/
def zbks (w : St) (L : List Nat) : List Nat := (List.range 2400).filterMap (fun s => if L.count s = 0 then none else if msg w s 8 = -1 then none else some (msg w s 8).toNatClampNeg)
def zIx (x : Int32) (n : Nat) : Prop := x = -1 ∨ ∃ s, s < n ∧ x = Int32.ofNat s
/-- the pools: H holds datagrams, TS segments, TA adverts, TB books beside those that are held by what is in the pools -/
def zMp (w : St) (H TS TA TB : List Nat) : Prop :=
  (H.Nodup ∧ (∀ d, d ∈ H → d < 2400) ∧ zFs (fun i => zgA w 173 0 i) (zgI w 19 2 0) 2400 (fun x => x ∉ H) ∧ TS.length + TA.length + TB.length ≤ 5000) ∧
  (∀ d, d ∈ H → zIx (md w d 10) 2400 ∧ zIx (md w d 11) 2400) ∧
  zRc (fun x => zgA w 176 0 x) (fun i => zgA w 177 0 i) (zgI w 19 7 0) 2400 (H.filterMap (mgs w) ++ TS) ∧
  zRc (fun x => zgA w 179 0 x) (fun i => zgA w 180 0 i) (zgI w 19 11 0) 2400 (H.filterMap (mga w) ++ TA) ∧
  zRc (fun x => zgA w 183 0 x) (fun i => zgA w 185 0 i) (zgI w 19 17 0) 2592 (zbks w (H.filterMap (mgs w) ++ TS) ++ TB) ∧
  (∀ s, s ∈ H.filterMap (mgs w) ++ TS → zIx (msg w s 8) 2592)
theorem zfm_cg {α β : Type} {f g : α → Option β} : ∀ {l : List α}, (∀ x, x ∈ l → f x = g x) → l.filterMap f = l.filterMap g := by
  intro l
  induction l with
  | nil => intro _; rfl
  | cons a l ih =>
    intro h
    rw [List.filterMap_cons, List.filterMap_cons, h a List.mem_cons_self, ih (fun x hx => h x (List.mem_cons_of_mem _ hx))]
theorem zIx_lt {x : Int32} {n : Nat} (h : zIx x n) (hx : x ≠ -1) : ∃ s, s < n ∧ x = Int32.ofNat s := h.resolve_left hx
theorem zo_ne1 {a : Nat} (h : a < 2147483648) : Int32.ofNat a ≠ -1 := by
  intro e
  have := congrArg Int32.toInt e
  rw [zoI h] at this
  have e1 : (-1 : Int32).toInt = -1 := rfl
  omega
theorem mgs_of {w : St} {d s : Nat} (h : md w d 10 = Int32.ofNat s) (hs : s < 2400) : mgs w d = some s := by
  unfold mgs
  rw [h, if_neg (zo_ne1 (by omega)), zoC (by omega)]
theorem mga_of {w : St} {d s : Nat} (h : md w d 11 = Int32.ofNat s) (hs : s < 2400) : mga w d = some s := by
  unfold mga
  rw [h, if_neg (zo_ne1 (by omega)), zoC (by omega)]
theorem zbks_cg {w w' : St} {L L' : List Nat} (h1 : ∀ s, s < 2400 → (L'.count s = 0 ↔ L.count s = 0)) (h2 : ∀ s, s < 2400 → L.count s ≠ 0 → msg w' s 8 = msg w s 8) : zbks w' L' = zbks w L := by
  unfold zbks
  refine zfm_cg (fun s hs => ?_)
  have hs := List.mem_range.mp hs
  by_cases c : L.count s = 0
  · rw [if_pos c, if_pos ((h1 s hs).mpr c)]
  · rw [if_neg c, if_neg (fun y => c ((h1 s hs).mp y)), h2 s hs c]
theorem zFs_p {free : Nat → Int32} {fc : Int32} {n : Nat} {p p' : Nat → Prop} (hp : ∀ x, p' x ↔ p x) (h : zFs free fc n p) : zFs free fc n p' := by
  obtain ⟨F, a, b, c, d⟩ := h
  exact ⟨F, a, b, c, fun x => by rw [d x, hp x]⟩
theorem zMp_perm {w : St} {H H' TS TA TB : List Nat} (hp : H.Perm H') (h : zMp w H TS TA TB) : zMp w H' TS TA TB := by
  obtain ⟨⟨h1, h2, h3, hbd⟩, h4, h5, h6, h7, h8⟩ := h
  have ps : (H.filterMap (mgs w) ++ TS).Perm (H'.filterMap (mgs w) ++ TS) := (hp.filterMap _).append_right _
  have pa : (H.filterMap (mga w) ++ TA).Perm (H'.filterMap (mga w) ++ TA) := (hp.filterMap _).append_right _
  refine ⟨⟨hp.nodup_iff.mp h1, fun d hd => h2 d (hp.mem_iff.mpr hd), zFs_p (fun x => by rw [hp.mem_iff]) h3, hbd⟩, fun d hd => h4 d (hp.mem_iff.mpr hd), zRc_perm ps h5, zRc_perm pa h6, ?_, fun s hs => h8 s (ps.mem_iff.mpr hs)⟩
  rw [zbks_cg (w := w) (L := H.filterMap (mgs w) ++ TS) (fun s _ => by rw [ps.count_eq]) (fun _ _ _ => rfl)]
  exact h7
theorem zmu18 {a k : Nat} : ((18 : Int32) * Int32.ofNat a) + Int32.ofNat k = Int32.ofNat (18 * a + k) := by
  rw [show (18 : Int32) * Int32.ofNat a = Int32.ofNat (18 * a) from (Int32.ofNat_mul 18 a).symm, zo_add]
theorem zm_of {w : St} {d k N : Nat} (hd : d < 2400) (hk : k < 18) : fX19_of N 0 (Int32.ofNat d) (Int32.ofNat k) w = some (md w d k, w) := by
  unfold fX19_of md
  rw [zmu18, zkk (by omega) (by omega), zoC (by omega)]
theorem zm_set {w : St} {d k N : Nat} {v : Int32} (hd : d < 2400) (hk : k < 18) : fX19_set N 0 (Int32.ofNat d) (Int32.ofNat k) v w = some (0, zsA w 172 0 (18 * d + k) v) := by
  unfold fX19_set
  rw [zmu18, zkk (by omega) (by omega), zoC (by omega)]
  rfl
theorem zsA_C2 (z : St) (k o : Nat) (g : Nat → Int32) (i : Nat) (v : Int32) : zsA (zsC z k o g) k o i v = zsC z k o (fun j => if j = i then v else g j) := by
  have e : zup (fun k' o' i' => if k' = k ∧ o' = o then g i' else z.2.2.1 k' o' i') k o i v = (fun k' o' i' => if k' = k ∧ o' = o then (if i' = i then v else g i') else z.2.2.1 k' o' i') := by
    funext k' o' i'
    unfold zup
    by_cases c : k' = k ∧ o' = o
    · by_cases c2 : i' = i
      · rw [if_pos ⟨c.1, c.2, c2⟩, if_pos c, if_pos c2]
      · rw [if_neg (fun h => c2 h.2.2), if_pos c, if_neg c2]
        exact if_pos c
    · rw [if_neg (fun h => c ⟨h.1, h.2.1⟩), if_neg c]
      exact if_neg c
  exact congrArg (fun f => (z.1, z.2.1, f, z.2.2.2)) e
theorem zsC_id (z : St) (k o : Nat) : zsC z k o (zgA z k o) = z := by
  have e : (fun k' o' i' => if k' = k ∧ o' = o then zgA z k o i' else z.2.2.1 k' o' i') = z.2.2.1 := by
    funext k' o' i'
    by_cases c : k' = k ∧ o' = o
    · rw [if_pos c, c.1, c.2]; rfl
    · rw [if_neg c]
  exact congrArg (fun f => (z.1, z.2.1, f, z.2.2.2)) e
/-- a datagram is copied -/
theorem zm_copyOf {w : St} {H TS TA TB : List Nat} {d N : Nat} (h : zMp w H TS TA TB) (hd : d ∈ H) (hl : H.length < 2400) (hN : 18 < N) : ∃ w' c, fX19_copyOf N 0 (Int32.ofNat d) w = some (Int32.ofNat c, w') ∧ c < 2400 ∧ c ∉ H ∧ zMp w' (c :: H) TS TA TB ∧ (∀ k, k < 18 → md w' c k = md w d k) ∧ (∀ e k, e ≠ c → k < 18 → md w' e k = md w e k) ∧ (∀ k o i, k ≠ 172 → k ≠ 176 → k ≠ 179 → zgA w' k o i = zgA w k o i) ∧ (∀ k j o, ¬ (k = 19 ∧ j = 2) → zgI w' k j o = zgI w k j o) ∧ (∀ k o i, zgL w' k o i = zgL w k o i) := by
  obtain ⟨⟨h1, h2, h3, hbd⟩, h4, h5, h6, h7, h8⟩ := h
  have hd2 := h2 d hd
  have hne : ∃ x, x < 2400 ∧ x ∉ H := by
    apply Classical.byContradiction
    intro hn
    have hs : List.range 2400 ⊆ H := fun x hx => Classical.byContradiction (fun hx2 => hn ⟨x, List.mem_range.mp hx, hx2⟩)
    have := zlen_sub List.nodup_range (fun x hx => hs hx)
    simp at this
    omega
  obtain ⟨k, c, k1, k2, k3, k4, k5, k6⟩ := zFs_pop h3 hne (by omega)
  have hdc : d ≠ c := fun e => k5 (by rw [← e]; exact hd)
  let w1 : St := zsI w 19 2 0 (Int32.ofNat k)
  let cp : Nat → Nat → Int32 := fun i j => if 18 * c ≤ j ∧ j < 18 * c + i then zgA w 172 0 (18 * d + (j - 18 * c)) else zgA w 172 0 j
  let w2 : St := zsC w1 172 0 (cp 18)
  have hcp : ∀ i j, i ≤ 18 → j < 18 → cp i (18 * d + j) = zgA w 172 0 (18 * d + j) := fun i j hi hj => by
    show (if _ then _ else _) = _
    rw [if_neg (by omega)]
  have m2c : ∀ j, j < 18 → md w2 c j = md w d j := fun j hj => by
    show zgA (zsC w1 172 0 (cp 18)) 172 0 (18 * c + j) = _
    rw [zgA_sCs]
    show (if _ then _ else _) = _
    rw [if_pos (by omega)]
    unfold md
    congr 1
    omega
  have m2e : ∀ e j, e ≠ c → j < 18 → md w2 e j = md w e j := fun e j he hj => by
    show zgA (zsC w1 172 0 (cp 18)) 172 0 (18 * e + j) = _
    rw [zgA_sCs]
    show (if _ then _ else _) = _
    rw [if_neg (by omega)]
    rfl
  -- the loop
  have loop : fX19_copyOf_22 N N 0 (Int32.ofNat d) (Int32.ofNat c) (Int32.ofNat 0) w1 = fX19_copyOf_22b N (fX19_copyOf_22 N (N - 18 - 1)) 0 (Int32.ofNat d) (Int32.ofNat c) (Int32.ofNat 18) w2 := by
    have step : ∀ i n, i < 18 → fX19_copyOf_22 N (n + 1) 0 (Int32.ofNat d) (Int32.ofNat c) (Int32.ofNat i) (zsC w1 172 0 (cp i)) = fX19_copyOf_22 N n 0 (Int32.ofNat d) (Int32.ofNat c) (Int32.ofNat (i + 1)) (zsC w1 172 0 (cp (i + 1))) := by
      intro i n hi
      show fX19_copyOf_22b N (fX19_copyOf_22 N n) 0 (Int32.ofNat d) (Int32.ofNat c) (Int32.ofNat i) (zsC w1 172 0 (cp i)) = _
      unfold fX19_copyOf_22b
      rw [show (18 : Int32) = Int32.ofNat 18 from rfl, if_neg (by rw [zo_le (by omega) (by omega)]; omega)]
      rw [show Int32.ofNat 18 * Int32.ofNat d + Int32.ofNat i = Int32.ofNat (18 * d + i) from zmu18, show Int32.ofNat 18 * Int32.ofNat c + Int32.ofNat i = Int32.ofNat (18 * c + i) from zmu18]
      rw [zkk (by omega) (by omega), zkk (by omega) (by omega), zl_e, zoC (by omega), zoC (by omega), zgA_sCs, hcp i i (by omega) (by omega), zsA_C2, zl_e, zo_i1]
      have : (fun j => if j = 18 * c + i then zgA w 172 0 (18 * d + i) else cp i j) = cp (i + 1) := by
        funext j
        show (if _ then _ else (if _ then _ else _)) = (if _ then _ else _)
        by_cases e : j = 18 * c + i
        · rw [if_pos e, if_pos (by omega)]
          congr 1
          omega
        · rw [if_neg e]
          by_cases e2 : 18 * c ≤ j ∧ j < 18 * c + i
          · rw [if_pos e2, if_pos (by omega)]
          · rw [if_neg e2, if_neg (by omega)]
      rw [this]
    have e0 : zsC w1 172 0 (cp 0) = w1 := by
      have : cp 0 = zgA w1 172 0 := by
        funext j
        show (if _ then _ else _) = _
        rw [if_neg (by omega)]
        rfl
      rw [this]
      exact zsC_id w1 172 0
    have all : ∀ m i n, i + m = 18 → m < n → fX19_copyOf_22 N n 0 (Int32.ofNat d) (Int32.ofNat c) (Int32.ofNat i) (zsC w1 172 0 (cp i)) = fX19_copyOf_22 N (n - m) 0 (Int32.ofNat d) (Int32.ofNat c) (Int32.ofNat 18) (zsC w1 172 0 (cp 18)) := by
      intro m
      induction m with
      | zero =>
        intro i n hi hn
        obtain rfl : i = 18 := by omega
        rfl
      | succ m ih =>
        intro i n hi hn
        obtain ⟨n, rfl⟩ : ∃ n', n = n' + 1 := ⟨n - 1, by omega⟩
        rw [step i n (by omega), ih (i + 1) n (by omega) (by omega)]
        congr 1
        omega
    have := all 18 0 N rfl hN
    rw [e0] at this
    rw [this]
    obtain ⟨n, hn⟩ : ∃ n', N - 18 = n' + 1 := ⟨N - 18 - 1, by omega⟩
    rw [hn]
    rfl
  have start : fX19_copyOf N 0 (Int32.ofNat d) w = fX19_copyOf_22b N (fX19_copyOf_22 N (N - 18 - 1)) 0 (Int32.ofNat d) (Int32.ofNat c) (Int32.ofNat 18) w2 := by
    unfold fX19_copyOf
    rw [k2, zl_e]
    have e2 : zgI (zsI w 19 2 0 (Int32.ofNat k)) 19 2 0 = Int32.ofNat k := by rw [zgI_sI, if_pos ⟨rfl, rfl, rfl⟩]
    have e3 : zgA (zsI w 19 2 0 (Int32.ofNat k)) 173 0 k = Int32.ofNat c := k3
    rw [e2, zkk (by omega) (by omega), zoC (by omega), zl_e, e3]
    exact loop
  have hix := h4 d hd
  have m10 := m2c 10 (by omega)
  have m11 := m2c 11 (by omega)
  -- segments
  have segP : ∃ w3, (∀ (K : Int32 → St → Option (Int32 × St)), True) ∧ fX19_copyOf_22b N (fX19_copyOf_22 N (N - 18 - 1)) 0 (Int32.ofNat d) (Int32.ofNat c) (Int32.ofNat 18) w2 = fX19_copyOf_83 N 0 (Int32.ofNat c) w3 ∧ ((w3 = w2 ∧ md w d 10 = -1) ∨ ∃ s, s < 2400 ∧ md w d 10 = Int32.ofNat s ∧ w3 = zsA w2 176 0 s (zgA w 176 0 s + 1)) := by
    unfold fX19_copyOf_22b
    rw [show (18 : Int32) = Int32.ofNat 18 from rfl, if_pos (Int32.le_refl _), show (10 : Int32) = Int32.ofNat 10 from rfl, zm_of k4 (by omega), zc_e, m10]
    by_cases c1 : md w d 10 = -1
    · rw [if_pos c1]
      exact ⟨w2, fun _ => trivial, rfl, Or.inl ⟨rfl, c1⟩⟩
    · rw [if_neg c1]
      obtain ⟨s, hs, es⟩ := zIx_lt hix.1 c1
      rw [zm_of k4 (by omega), zc_e, m10, es, zkk (by omega) (by omega), zkk (by omega) (by omega), zl_e, zoC (by omega)]
      exact ⟨_, fun _ => trivial, rfl, Or.inr ⟨s, hs, rfl, rfl⟩⟩
  obtain ⟨w3, -, e3, c3⟩ := segP
  have m3 : ∀ e j, md w3 e j = md w2 e j := by
    rcases c3 with ⟨rfl, -⟩ | ⟨s, -, -, rfl⟩
    · exact fun _ _ => rfl
    · intro e j
      unfold md
      rw [zgA_sA, if_neg (by simp)]
  have advP : ∃ w4, fX19_copyOf_83 N 0 (Int32.ofNat c) w3 = some (Int32.ofNat c, w4) ∧ ((w4 = w3 ∧ md w d 11 = -1) ∨ ∃ s, s < 2400 ∧ md w d 11 = Int32.ofNat s ∧ w4 = zsA w3 179 0 s (zgA w 179 0 s + 1)) := by
    have n11 : md w3 c 11 = md w d 11 := (m3 c 11).trans m11
    unfold fX19_copyOf_83
    rw [show (11 : Int32) = Int32.ofNat 11 from rfl, zm_of k4 (by omega), zc_e, n11]
    by_cases c1 : md w d 11 = -1
    · rw [if_pos c1]
      exact ⟨w3, rfl, Or.inl ⟨rfl, c1⟩⟩
    · rw [if_neg c1]
      obtain ⟨s, hs, es⟩ := zIx_lt hix.2 c1
      have e9 : zgA w3 179 0 s = zgA w 179 0 s := by
        rcases c3 with ⟨rfl, -⟩ | ⟨s', -, -, rfl⟩
        · show zgA (zsC w1 172 0 (cp 18)) 179 0 s = _
          rw [zgA_sC, if_neg (by simp)]; rfl
        · rw [zgA_sA, if_neg (by simp)]
          show zgA (zsC w1 172 0 (cp 18)) 179 0 s = _
          rw [zgA_sC, if_neg (by simp)]; rfl
      rw [zm_of k4 (by omega), zc_e, n11, es, zkk (by omega) (by omega), zkk (by omega) (by omega), zl_e, zoC (by omega), e9]
      exact ⟨_, rfl, Or.inr ⟨s, hs, rfl, rfl⟩⟩
  obtain ⟨w4, e4, c4⟩ := advP
  have m4 : ∀ e j, md w4 e j = md w2 e j := by
    intro e j
    rw [← m3 e j]
    rcases c4 with ⟨rfl, -⟩ | ⟨s, -, -, rfl⟩
    · rfl
    · unfold md
      rw [zgA_sA, if_neg (by simp)]
  have a4 : ∀ k o i, k ≠ 172 → k ≠ 176 → k ≠ 179 → zgA w4 k o i = zgA w k o i := by
    intro k o i n1 n2 n3
    have b2 : zgA w2 k o i = zgA w k o i := by
      show zgA (zsC w1 172 0 (cp 18)) k o i = _
      rw [zgA_sC, if_neg (fun y => n1 y.1)]; rfl
    have b3 : zgA w3 k o i = zgA w2 k o i := by
      rcases c3 with ⟨rfl, -⟩ | ⟨s, -, -, rfl⟩
      · rfl
      · rw [zgA_sA, if_neg (fun y => n2 y.1)]
    have b4 : zgA w4 k o i = zgA w3 k o i := by
      rcases c4 with ⟨rfl, -⟩ | ⟨s, -, -, rfl⟩
      · rfl
      · rw [zgA_sA, if_neg (fun y => n3 y.1)]
    rw [b4, b3, b2]
  have i4 : ∀ k j o, zgI w4 k j o = zgI w1 k j o := by
    intro k j o
    have b3 : zgI w3 k j o = zgI w2 k j o := by
      rcases c3 with ⟨rfl, -⟩ | ⟨s, -, -, rfl⟩ <;> rfl
    have b4 : zgI w4 k j o = zgI w3 k j o := by
      rcases c4 with ⟨rfl, -⟩ | ⟨s, -, -, rfl⟩ <;> rfl
    rw [b4, b3]
    rfl
  have l4 : ∀ k o i, zgL w4 k o i = zgL w k o i := by
    intro k o i
    have b3 : zgL w3 k o i = zgL w2 k o i := by
      rcases c3 with ⟨rfl, -⟩ | ⟨s, -, -, rfl⟩ <;> rfl
    have b4 : zgL w4 k o i = zgL w3 k o i := by
      rcases c4 with ⟨rfl, -⟩ | ⟨s, -, -, rfl⟩ <;> rfl
    rw [b4, b3]
    rfl
  have gsE : ∀ e, e ∈ H → mgs w4 e = mgs w e ∧ mga w4 e = mga w e := by
    intro e he
    have hec : e ≠ c := fun y => k5 (by rw [← y]; exact he)
    have a1 := (m4 e 10).trans (m2e e 10 hec (by omega))
    have a2 := (m4 e 11).trans (m2e e 11 hec (by omega))
    unfold mgs mga
    rw [a1, a2]
    exact ⟨rfl, rfl⟩
  have fm1 : H.filterMap (mgs w4) = H.filterMap (mgs w) := zfm_cg (fun e he => (gsE e he).1)
  have fm2 : H.filterMap (mga w4) = H.filterMap (mga w) := zfm_cg (fun e he => (gsE e he).2)
  have c10 := (m4 c 10).trans m10
  have c11 := (m4 c 11).trans m11
  have segs : zRc (fun x => zgA w4 176 0 x) (fun i => zgA w4 177 0 i) (zgI w4 19 7 0) 2400 ((c :: H).filterMap (mgs w4) ++ TS) ∧ (∀ s, ((c :: H).filterMap (mgs w4) ++ TS).count s = 0 ↔ (H.filterMap (mgs w) ++ TS).count s = 0) := by
    have eI : zgI w4 19 7 0 = zgI w 19 7 0 := by rw [i4]; rfl
    have e177 : (fun i => zgA w4 177 0 i) = (fun i => zgA w 177 0 i) := funext (fun i => a4 177 0 i (by simp) (by simp) (by simp))
    rw [eI, e177]
    rcases c3 with ⟨e, hm⟩ | ⟨s, hs, hm, e⟩
    · have : mgs w4 c = none := by unfold mgs; rw [c10, if_pos hm]
      have e176 : (fun x => zgA w4 176 0 x) = (fun x => zgA w 176 0 x) := by
        funext x
        have : zgA w4 176 0 x = zgA w3 176 0 x := by
          rcases c4 with ⟨rfl, -⟩ | ⟨s, -, -, rfl⟩
          · rfl
          · rw [zgA_sA, if_neg (by simp)]
        rw [this, e]
        show zgA (zsC w1 172 0 (cp 18)) 176 0 x = _
        rw [zgA_sC, if_neg (by simp)]; rfl
      rw [List.filterMap_cons_none this, fm1, e176]
      exact ⟨h5, fun s => Iff.rfl⟩
    · have : mgs w4 c = some s := mgs_of (c10.trans hm) hs
      have hsin : s ∈ H.filterMap (mgs w) ++ TS := List.mem_append_left _ (List.mem_filterMap.mpr ⟨d, hd, mgs_of hm hs⟩)
      rw [List.filterMap_cons_some this, fm1, List.cons_append]
      refine ⟨zRc_hold h5 hsin (fun y => ?_), fun t => ?_⟩
      · have : zgA w4 176 0 y = zgA w3 176 0 y := by
          rcases c4 with ⟨rfl, -⟩ | ⟨s, -, -, rfl⟩
          · rfl
          · rw [zgA_sA, if_neg (by simp)]
        rw [this, e, zgA_sA]
        by_cases q : y = s
        · rw [if_pos ⟨rfl, rfl, q⟩, if_pos q]
        · rw [if_neg (fun z => q z.2.2), if_neg q]
          show zgA (zsC w1 172 0 (cp 18)) 176 0 y = _
          rw [zgA_sC, if_neg (by simp)]; rfl
      · by_cases q : t = s
        · subst q
          rw [List.count_cons_self]
          have : 0 < (H.filterMap (mgs w) ++ TS).count t := List.count_pos_iff.mpr hsin
          constructor <;> intro z <;> omega
        · rw [List.count_cons_of_ne (fun y => q y.symm)]
  have advs : zRc (fun x => zgA w4 179 0 x) (fun i => zgA w4 180 0 i) (zgI w4 19 11 0) 2400 ((c :: H).filterMap (mga w4) ++ TA) := by
    have eI : zgI w4 19 11 0 = zgI w 19 11 0 := by rw [i4]; rfl
    have e180 : (fun i => zgA w4 180 0 i) = (fun i => zgA w 180 0 i) := funext (fun i => a4 180 0 i (by simp) (by simp) (by simp))
    have b9 : ∀ x, zgA w3 179 0 x = zgA w 179 0 x := by
      intro x
      rcases c3 with ⟨rfl, -⟩ | ⟨s', -, -, rfl⟩
      · show zgA (zsC w1 172 0 (cp 18)) 179 0 x = _
        rw [zgA_sC, if_neg (by simp)]; rfl
      · rw [zgA_sA, if_neg (by simp)]
        show zgA (zsC w1 172 0 (cp 18)) 179 0 x = _
        rw [zgA_sC, if_neg (by simp)]; rfl
    rw [eI, e180]
    rcases c4 with ⟨e, hm⟩ | ⟨s, hs, hm, e⟩
    · have : mga w4 c = none := by unfold mga; rw [c11, if_pos hm]
      have e179 : (fun x => zgA w4 179 0 x) = (fun x => zgA w 179 0 x) := by
        funext x
        rw [e]
        exact b9 x
      rw [List.filterMap_cons_none this, fm2, e179]
      exact h6
    · have : mga w4 c = some s := mga_of (c11.trans hm) hs
      have hsin : s ∈ H.filterMap (mga w) ++ TA := List.mem_append_left _ (List.mem_filterMap.mpr ⟨d, hd, mga_of hm hs⟩)
      rw [List.filterMap_cons_some this, fm2, List.cons_append]
      refine zRc_hold h6 hsin (fun y => ?_)
      rw [e, zgA_sA]
      by_cases q : y = s
      · rw [if_pos ⟨rfl, rfl, q⟩, if_pos q]
      · rw [if_neg (fun z => q z.2.2), if_neg q]
        exact b9 y
  refine ⟨w4, c, by rw [start, e3, e4], k4, k5, ⟨⟨List.nodup_cons.mpr ⟨k5, h1⟩, fun e he => ?_, ?_, hbd⟩, fun e he => ?_, segs.1, advs, ?_, fun s hs => ?_⟩, fun j hj => (m4 c j).trans (m2c j hj), fun e j he hj => (m4 e j).trans (m2e e j he hj), a4, fun k' j o hk => ?_, l4⟩
  · rcases List.mem_cons.mp he with rfl | he
    · exact k4
    · exact h2 e he
  · have eI : zgI w4 19 2 0 = Int32.ofNat k := by
      rw [i4]
      show zgI (zsI w 19 2 0 (Int32.ofNat k)) 19 2 0 = _
      rw [zgI_sI, if_pos ⟨rfl, rfl, rfl⟩]
    have e173 : (fun i => zgA w4 173 0 i) = (fun i => zgA w 173 0 i) := funext (fun i => a4 173 0 i (by simp) (by simp) (by simp))
    rw [eI, e173]
    refine k6 _ (fun y => ?_)
    rw [List.mem_cons]
    constructor
    · intro q; exact ⟨fun z => q (Or.inr z), fun z => q (Or.inl z)⟩
    · rintro ⟨a, b⟩ (z | z)
      · exact b z
      · exact a z
  · rcases List.mem_cons.mp he with rfl | he
    · rw [c10, c11]; exact hix
    · have hec : e ≠ c := fun y => k5 (by rw [← y]; exact he)
      rw [m4, m4, m2e e 10 hec (by omega), m2e e 11 hec (by omega)]
      exact h4 e he
  · have e183 : (fun x => zgA w4 183 0 x) = (fun x => zgA w 183 0 x) := funext (fun i => a4 183 0 i (by simp) (by simp) (by simp))
    have e185 : (fun x => zgA w4 185 0 x) = (fun x => zgA w 185 0 x) := funext (fun i => a4 185 0 i (by simp) (by simp) (by simp))
    have eI : zgI w4 19 17 0 = zgI w 19 17 0 := by rw [i4]; rfl
    rw [e183, e185, eI, zbks_cg (fun s _ => segs.2 s) (fun s _ _ => a4 174 0 _ (by simp) (by simp) (by simp))]
    exact h7
  · have hs' : s ∈ H.filterMap (mgs w) ++ TS := by
      apply Classical.byContradiction
      intro q
      have := (segs.2 s).mpr (List.count_eq_zero.mpr q)
      exact (List.count_eq_zero.mp this) hs
    have e : msg w4 s 8 = msg w s 8 := a4 174 0 _ (by simp) (by simp) (by simp)
    rw [e]
    exact h8 s hs'
  · rw [i4]
    show zgI (zsI w 19 2 0 (Int32.ofNat k)) k' j o = _
    rw [zgI_sI, if_neg (fun y => hk ⟨y.1, y.2.1⟩)]
