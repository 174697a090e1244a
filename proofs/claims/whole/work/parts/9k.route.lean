/-! where a datagram goes next -/
abbrev Wyt : Type := Nat → Nat → Int32 × Int32 × Int32
/-- a router's way to a net: none, or over a port of its own, to itself or to another router there -/
def zWw1 (T : Tp) (v : Int32 × Int32 × Int32) (b n : Nat) : Prop := (v.1 = -1 ∧ v.2.1 = -1 ∧ v.2.2 = -1) ∨ (¬ v.1 = -1 ∧ ∃ o q, o < tn T ∧ v.2.2 = Int32.ofNat o ∧ tpo T b o = some q ∧ ((v.2.1 = Int32.ofNat b ∧ o = n) ∨ ∃ k q2, k < tb T ∧ k ≠ b ∧ tr T k = true ∧ v.2.1 = Int32.ofNat k ∧ tpo T k o = some q2))
def zWyw (T : Tp) (Wy : Wyt) : Prop := ∀ b n, b < tb T → tr T b = true → n < 24 → zWw1 T (Wy b n) b n
def zWyc (z : St) (T : Tp) (Wy : Wyt) : Prop := ∀ b n, b < tb T → tr T b = true → n < 24 → zgA z 106 b n = (Wy b n).1 ∧ zgA z 107 b n = (Wy b n).2.1 ∧ zgA z 108 b n = (Wy b n).2.2
def zWym (w : St) (T : Tp) (Wy : Wyt) : Prop := ∀ b n, b < tb T → tr T b = true → n < 24 → zgA w 155 b n = (Wy b n).1 ∧ zgA w 156 b n = (Wy b n).2.1 ∧ zgA w 157 b n = (Wy b n).2.2
theorem zWyc_fr {M : Nat} {z z' : St} {T : Tp} {Wy : Wyt} (f : zFr M z z') (hm : 0x1c000000000000000000000000000000000000000000000000000000000000000000000000000000000000000000000000000000000000000000000000000000000000000000000000000000000000000000000000000000000000000000000000000000000000000000000000000000000000000000000000000000000000000000000000000000000000000000000000000000000000000000000000000000000 &&& M = 0) (h : zWyc z T Wy) : zWyc z' T Wy := fun b n hb hr hn => by
  obtain ⟨a, c, d⟩ := h b n hb hr hn
  exact ⟨(zFr_gA f (ztf hm (by decide)) b n).trans a, (zFr_gA f (ztf hm (by decide)) b n).trans c, (zFr_gA f (ztf hm (by decide)) b n).trans d⟩
theorem zWym_fr {M : Nat} {z z' : St} {T : Tp} {Wy : Wyt} (f : zFr M z z') (hm : 0x38000000000000000000000000000000000000000000000000000000000000000000000000000000000000000000000000000000000000000000000000000000000000000000000000000000000000000000000000000000000000000000000000000000000000000000000000000000000000000000000000000000000000000000000000000000000000000000000000000000000000000000000000000000000000000000000 &&& M = 0) (h : zWym z T Wy) : zWym z' T Wy := fun b n hb hr hn => by
  obtain ⟨a, c, d⟩ := h b n hb hr hn
  exact ⟨(zFr_gA f (ztf hm (by decide)) b n).trans a, (zFr_gA f (ztf hm (by decide)) b n).trans c, (zFr_gA f (ztf hm (by decide)) b n).trans d⟩
theorem tpo_some {T : Tp} (hc : zTc T) {b n q : Nat} (hb : b < tb T) (h : tpo T b n = some q) : tv T q ∧ tw T q = b ∧ q / 8 = n ∧ ti T q < tp T b ∧ tq T b (ti T q) = q := by
  unfold tpo at h
  cases hz : zfst (fun i => tq T b i / 8 == n) (tp T b) 0 with
  | none => rw [hz] at h; cases h
  | some i =>
    rw [hz] at h
    obtain rfl : tq T b i = q := Option.some.inj h
    obtain ⟨-, h2, h3, -⟩ := zfst_some hz
    rw [Nat.zero_add] at h2
    obtain ⟨v1, v2, v3⟩ := hc.2.2.2.2.2.2.1 b i hb h2
    refine ⟨v1, v2, by simpa using h3, by rw [v3]; exact h2, by rw [v3]⟩
theorem tpo_of {T : Tp} (hc : zTc T) {b n i : Nat} (hb : b < tb T) (hi : i < tp T b) (hn : tq T b i / 8 = n) : tpo T b n = some (tq T b i) := by
  unfold tpo
  cases hz : zfst (fun i => tq T b i / 8 == n) (tp T b) 0 with
  | none =>
    have := zfst_none hz i (by omega) (by omega)
    rw [hn] at this
    simp at this
  | some j =>
    obtain ⟨-, h2, h3, -⟩ := zfst_some hz
    rw [Nat.zero_add] at h2
    have h3 : tq T b j / 8 = n := by simpa using h3
    have := hc.2.2.2.2.2.2.2 b i j hb hi h2 (by rw [hn, h3])
    rw [this]; rfl
/-- the port and the station that come next, from a router -/
def rtR (T : Tp) (Wy : Wyt) (b : Nat) (goal : Int32) : Option (Nat × Nat) :=
  if zia T goal = false then none else
  if (Wy b (zan goal)).1 = -1 then none else
  match tpo T b (Wy b (zan goal)).2.2.toNatClampNeg with
  | none => none
  | some q => if (Wy b (zan goal)).2.1 = Int32.ofNat b then some (q, zal goal - 1) else
    match tpo T (Wy b (zan goal)).2.1.toNatClampNeg (q / 8) with
    | none => none
    | some p => some (q, p % 8)
/-- from a host -/
def rtH (T : Tp) (b : Nat) (goal : Int32) : Option (Nat × Nat) :=
  if tp T b = 0 then none else
  if zun goal / 65536 = zun (zad (tq T b 0)) / 65536 then (if zia T goal = true then some (tq T b 0, zal goal - 1) else none) else (tlr T (tq T b 0 / 8)).map (fun s => (tq T b 0, s))
def rt (T : Tp) (Wy : Wyt) (b : Nat) (goal : Int32) : Option (Nat × Nat) := if tr T b = true then rtR T Wy b goal else rtH T b goal
theorem rtR_some {T : Tp} (hc : zTc T) {Wy : Wyt} (hW : zWyw T Wy) {b : Nat} {goal : Int32} {q s : Nat} (hb : b < tb T) (hr : tr T b = true) (h : rtR T Wy b goal = some (q, s)) : tv T q ∧ tw T q = b ∧ s < 8 := by
  unfold rtR at h
  by_cases c : zia T goal = false
  · rw [if_pos c] at h; cases h
  rw [if_neg c] at h
  have c' : zia T goal = true := by simpa using c
  obtain ⟨z1, z2, z3, z4⟩ := zia_iff.mp c'
  have h24 := hc.2.1
  by_cases c1 : (Wy b (zan goal)).1 = -1
  · rw [if_pos c1] at h; cases h
  rw [if_neg c1] at h
  rcases hW b (zan goal) hb hr (by omega) with ⟨e1, -, -⟩ | ⟨-, o, q1, ho, e2, e3, e4⟩
  · exact absurd e1 c1
  rw [e2, zoC (by omega), e3] at h
  dsimp only at h
  obtain ⟨t1, t2, t3, t4, t5⟩ := tpo_some hc hb e3
  rcases e4 with ⟨e5, -⟩ | ⟨k, q2, hk, hkb, hkr, e5, e6⟩
  · rw [if_pos e5] at h
    have h := Option.some.inj h
    have e7 : q1 = q := congrArg Prod.fst h
    have e8 : zal goal - 1 = s := congrArg Prod.snd h
    rw [← e7]
    exact ⟨t1, t2, by omega⟩
  · have h16 := hc.1
    rw [if_neg (by rw [e5, zo_eq (by omega) (by omega)]; exact hkb), e5, zoC (by omega), t3, e6] at h
    dsimp only at h
    have h := Option.some.inj h
    have e7 : q1 = q := congrArg Prod.fst h
    have e8 : q2 % 8 = s := congrArg Prod.snd h
    rw [← e7]
    exact ⟨t1, t2, by omega⟩
theorem rtH_some {T : Tp} (hc : zTc T) {b : Nat} {goal : Int32} {q s : Nat} (hb : b < tb T) (h : rtH T b goal = some (q, s)) : tv T q ∧ tw T q = b ∧ s < 8 := by
  unfold rtH at h
  by_cases c : tp T b = 0
  · rw [if_pos c] at h; cases h
  rw [if_neg c] at h
  have hv := tv_q hc hb (show 0 < tp T b by omega)
  have hw := (hc.2.2.2.2.2.2.1 b 0 hb (by omega)).2.1
  by_cases c1 : zun goal / 65536 = zun (zad (tq T b 0)) / 65536
  · rw [if_pos c1] at h
    by_cases c2 : zia T goal = true
    · rw [if_pos c2] at h
      obtain ⟨z1, z2, z3, z4⟩ := zia_iff.mp c2
      have h := Option.some.inj h
      have e7 : tq T b 0 = q := congrArg Prod.fst h
      have e8 : zal goal - 1 = s := congrArg Prod.snd h
      rw [← e7]
      exact ⟨hv, hw, by omega⟩
    · rw [if_neg c2] at h; cases h
  · rw [if_neg c1] at h
    cases ht : tlr T (tq T b 0 / 8) with
    | none => rw [ht] at h; cases h
    | some s' =>
      rw [ht] at h
      have h := Option.some.inj h
      have e7 : tq T b 0 = q := congrArg Prod.fst h
      have e8 : s' = s := congrArg Prod.snd h
      have := (zfst_some ht).2.1
      have h8 := hc.2.2.1 _ hv.1
      rw [← e7]
      exact ⟨hv, hw, by omega⟩
theorem rt_some {T : Tp} (hc : zTc T) {Wy : Wyt} (hW : zWyw T Wy) {b : Nat} {goal : Int32} {q s : Nat} (hb : b < tb T) (h : rt T Wy b goal = some (q, s)) : tv T q ∧ tw T q = b ∧ s < 8 := by
  unfold rt at h
  by_cases c : tr T b = true
  · rw [if_pos c] at h; exact rtR_some hc hW hb c h
  · rw [if_neg c] at h; exact rtH_some hc hb h
/-- the class's number of a route -/
def rtn (T : Tp) : Option (Nat × Nat) → Int32
  | some v => Int32.ofNat (8 * ti T v.1 + v.2)
  | none => -1
theorem zc_boxOf {z : St} {T : Tp} (h : zTC z T) (hc : zTc T) {k : Nat} (N : Nat) (hk : k < tb T) : fX11_boxOf N 0 (Int32.ofNat k) z = some (some k, z) := by
  have h16 := hc.1
  unfold fX11_boxOf
  rw [if_neg (zo_nn (by omega)), h.1.1, if_neg (by rw [zo_le (by omega) (by omega)]; omega), zkk (by omega) (by omega), zl_e, zoC (by omega), (h.2.1.2 k hk).1]
theorem zc_routerOf {z : St} {T : Tp} (h : zTC z T) (hc : zTc T) {k : Nat} (N : Nat) (hk : k < tb T) (hr : tr T k = true) : fX11_routerOf N 0 (Int32.ofNat k) z = some (some k, z) := by
  unfold fX11_routerOf
  rw [zc_boxOf h hc N hk, zc_e, zo_e, (h.2.1.2 k hk).2.2.1, hr, if_pos (by decide)]
theorem zc_routeR {z : St} {T : Tp} {Wy : Wyt} (h : zTC z T) (hc : zTc T) (hW : zWyc z T Wy) (hWw : zWyw T Wy) {b N : Nat} (goal : Int32) (hb : b < tb T) (hr : tr T b = true) (hN : 6 < N) : fX11_routeFromRouter N 0 b goal z = some (rtn T (rtR T Wy b goal), z) := by
  have h24 := hc.2.1
  have h16 := hc.1
  obtain ⟨r1, r2, r3⟩ := h.2.2.1.1 b hb hr
  unfold fX11_routeFromRouter rtR
  rw [zc_isNetAddress h hc, zc_e]
  by_cases c : zia T goal = false
  · rw [c, if_neg (by decide), if_pos rfl]; rfl
  have c' : zia T goal = true := by simpa using c
  obtain ⟨z1, z2, z3, z4⟩ := zia_iff.mp c'
  obtain ⟨w1, w2, w3⟩ := hW b (zan goal) hb hr (by omega)
  rw [c', if_pos (by decide), if_neg (by decide), zan_e, zl_e, zl_e, r1, zd_e, zl_e, r2, zd_e, zkk (by omega) (by omega), zoC (by omega), w1, w3]
  by_cases c1 : (Wy b (zan goal)).1 = -1
  · rw [if_neg (fun y => y c1), if_pos c1]; rfl
  rw [if_pos c1, if_neg c1, zkk (by omega) (by omega)]
  rcases hWw b (zan goal) hb hr (by omega) with ⟨e1, -, -⟩ | ⟨-, o, q1, ho, e2, e3, e4⟩
  · exact absurd e1 c1
  obtain ⟨t1, t2, t3, t4, t5⟩ := tpo_some hc hb e3
  obtain ⟨-, -, p2, p3, -⟩ := h.2.2.2 _ t1
  rw [e2, zc_portOn h hc hb (by omega) hN, zc_e, zoC (by omega), e3, zo_e, zkk (by omega) (by omega), w2, (h.2.1.2 b hb).2.1]
  dsimp only
  rcases e4 with ⟨e5, -⟩ | ⟨k, q2, hk, hkb, hkr, e5, e6⟩
  · rw [if_neg (fun y => y e5), if_pos e5, p2, zal_e]
    have e8 : Int32.ofNat (ti T q1) * (8 : Int32) = Int32.ofNat (ti T q1 * 8) := (Int32.ofNat_mul _ 8).symm
    rw [e8, zo_add, zo_s1 (by omega)]
    show some (Int32.ofNat _, z) = some (Int32.ofNat (8 * ti T q1 + (zal goal - 1)), z)
    congr 3
    omega
  · have hne : ¬ Int32.ofNat k = Int32.ofNat b := by rw [zo_eq (by omega) (by omega)]; exact hkb
    obtain ⟨u1, u2, u3, u4, u5⟩ := tpo_some hc hk e6
    rw [e5, if_pos hne, if_neg hne, zkk (by omega) (by omega), zc_routerOf h hc N hk hkr, zc_e, zo_e, zkk (by omega) (by omega), w3, e2, zc_portOn h hc hk (by omega) hN, zc_e, zoC (by omega), t3, e6]
    unfold fX11_routeFromRouter_125
    rw [zo_e, p2, (h.2.2.2 _ u1).2.2.2.1]
    have e8 : Int32.ofNat (ti T q1) * (8 : Int32) = Int32.ofNat (ti T q1 * 8) := (Int32.ofNat_mul _ 8).symm
    rw [e8, zo_add]
    show some (Int32.ofNat _, z) = some (Int32.ofNat (8 * ti T q1 + q2 % 8), z)
    congr 3
    omega
theorem zsh16_eq {x y : Int32} : ((x.toUInt32 >>> (((16 : Int32)).toUInt32 &&& Int32.toUInt32 31)).toInt32) = ((y.toUInt32 >>> (((16 : Int32)).toUInt32 &&& Int32.toUInt32 31)).toInt32) ↔ zun x / 65536 = zun y / 65536 := by
  constructor
  · intro h
    have := congrArg zun h
    rw [zsh16, zsh16] at this
    exact this
  · intro h
    apply zun_inj
    rw [zsh16, zsh16, h]
theorem zc_routeH {z : St} {T : Tp} (h : zTC z T) (hc : zTc T) {b N : Nat} (goal : Int32) (hb : b < tb T) (hN : 8 < N) : fX11_routeFromHost N 0 b goal z = some (rtn T (rtH T b goal), z) := by
  have h24 := hc.2.1
  obtain ⟨-, -, -, -, kq, kn, -⟩ := h.2.1.2 b hb
  unfold fX11_routeFromHost rtH
  rw [zk_0 (by decide) (by decide), zl_e, show (Int32.toNatClampNeg (0 : Int32)) = 0 from rfl]
  by_cases c : tp T b = 0
  · rw [kn 0 (by omega) (by omega), zo_0, if_pos c]; rfl
  have hv := tv_q hc hb (show 0 < tp T b by omega)
  have hti := (hc.2.2.2.2.2.2.1 b 0 hb (by omega)).2.2
  obtain ⟨-, p1, -, -, p4⟩ := h.2.2.2 _ hv
  rw [kq 0 (by omega), zo_e, if_neg c, p4]
  by_cases c1 : zun goal / 65536 = zun (zad (tq T b 0)) / 65536
  · rw [if_pos (zsh16_eq.mpr c1), if_pos c1, zc_isNetAddress h hc, zc_e]
    by_cases c2 : zia T goal = true
    · obtain ⟨z1, z2, z3, z4⟩ := zia_iff.mp c2
      have := zal_lt goal
      rw [c2, if_neg (by decide), if_pos rfl, zal_e, zo_s1 (by omega)]
      show some (Int32.ofNat _, z) = some (Int32.ofNat (8 * ti T (tq T b 0) + (zal goal - 1)), z)
      rw [hti]
      congr 3
      omega
    · have c2' : zia T goal = false := by simpa using c2
      rw [c2', if_pos (by decide), if_neg (by decide)]; rfl
  · rw [if_neg (fun y => c1 (zsh16_eq.mp y)), if_neg c1, zl_e, p1, zd_e, zc_leastRouter h hc hv.1 hN, zc_e]
    cases ht : tlr T (tq T b 0 / 8) with
    | none => rfl
    | some s =>
      show some (Int32.ofNat s, z) = some (Int32.ofNat (8 * ti T (tq T b 0) + s), z)
      rw [hti]
      congr 3
      omega
theorem zrt : ∀ k, k < 64 → (Int32.ofNat k >>> ((3 : Int32) &&& 31)) = Int32.ofNat (k / 8) ∧ (Int32.ofNat k &&& (7 : Int32)) = Int32.ofNat (k % 8) := by decide +kernel
