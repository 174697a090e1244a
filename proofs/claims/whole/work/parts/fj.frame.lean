/-! a frame arrives at all its stations: both sides -/
def zTrA (T : Tp) (E : Ev) (tl Nm : Nat → Nat) (Wy : Wyt) (u5 : Nat → Prop) (K : Int32 → Int32 → Int32 → Prop) (X : List Nat) (N : Nat) (D : Dg) (z w : St) (g : Sg) (Lp : Nat → List Pe) (z' w' : St) (g' : Sg) (Lp' : Nat → List Pe) : Prop := ∀ I : St → St → Sg → (Nat → List Pe) → Prop, (∀ q y v h L y' v' h' L', zStp1 T E tl Nm Wy u5 K X N D q y v h L y' v' h' L' → I y v h L → I y' v' h' L') → I z w g Lp → I z' w' g' Lp'
theorem tw_net {T : Tp} {p q : Nat} (hc : zTc T) (hp : tv T p) (hq : tv T q) (h8 : p / 8 = q / 8) (h : tw T p = tw T q) : p = q := by
  obtain ⟨p1, p2, p3⟩ := hc.2.2.2.2.2.1 p hp
  obtain ⟨q1, q2, q3⟩ := hc.2.2.2.2.2.1 q hq
  have := hc.2.2.2.2.2.2.2 (tw T p) (ti T p) (ti T q) p1 p2 (by rw [h]; exact q2) (by rw [p3, h, q3]; exact h8)
  rw [← p3, this, h, q3]
/-- stations of net n before s of box v -/
def zCn (T : Tp) (n s v : Nat) : Nat := if (List.range s).any (fun t => tw T (8 * n + t) == v) = true then 1 else 0
theorem zCn_le (T : Tp) (n s v : Nat) : zCn T n s v ≤ 1 := by unfold zCn; split <;> omega
theorem zCn_s {T : Tp} {n s v : Nat} : zCn T n s v ≤ zCn T n (s + 1) v := by
  unfold zCn
  by_cases c : (List.range s).any (fun t => tw T (8 * n + t) == v) = true
  · rw [if_pos c, if_pos]
    · exact Nat.le_refl _
    · rw [List.any_eq_true] at c ⊢
      obtain ⟨t, t1, t2⟩ := c
      exact ⟨t, List.mem_range.mpr (by have := List.mem_range.mp t1; omega), t2⟩
  · rw [if_neg c]; omega
theorem zCn_new {T : Tp} {n s : Nat} (hc : zTc T) (hn : n < tn T) (hs : s < ts T n) : zCn T n s (tw T (8 * n + s)) = 0 ∧ zCn T n (s + 1) (tw T (8 * n + s)) = 1 := by
  have h8 := hc.2.2.1 n hn
  have tvp : ∀ t, t < ts T n → tv T (8 * n + t) := fun t ht => ⟨by rw [show (8 * n + t) / 8 = n by omega]; exact hn, by rw [show (8 * n + t) / 8 = n by omega, show (8 * n + t) % 8 = t by omega]; exact ht⟩
  constructor
  · unfold zCn
    rw [if_neg]
    intro c
    rw [List.any_eq_true] at c
    obtain ⟨t, t1, t2⟩ := c
    have t1 := List.mem_range.mp t1
    have := tw_net hc (tvp t (by omega)) (tvp s hs) (by omega) (by simpa using t2)
    omega
  · unfold zCn
    rw [if_pos]
    rw [List.any_eq_true]
    exact ⟨s, List.mem_range.mpr (by omega), by simp⟩
theorem zp_frameL {T : Tp} {E : Ev} {tl Nm : Nat → Nat} {Wy : Wyt} {u5 : Nat → Prop} {K : Int32 → Int32 → Int32 → Prop} {X XM : List Nat} {x n p N : Nat} {kind addr dv x1 x2 y1 : Int32} {D : Dg} {mk0 od0 : Nat → Nat} {K11 : Nat → Int32 → Int32 → St → Option (Int32 × St)} {K2 : Nat → Int32 → St → Option (Int32 × St)} (hc : zTc T) (hXM : XM.length ≤ 30) (hx : x ∈ X) (hn : n < tn T) (hpv : tv T p) (hpn : p / 8 = n) (h13 : D.1 13 = Int32.ofNat (p % 8)) (hto : D.1 11 = -1 ∨ ∃ t, t < 8 ∧ D.1 11 = Int32.ofNat t) (hu : u5 n) (hrK : rK T Nm p D) (hrk : (D.1 2 = 2 ∨ D.1 2 = 3 ∨ D.1 2 = 4) → D.1 11 = -1 ∨ ∃ t, t < 8 ∧ D.1 11 = Int32.ofNat t ∧ t ≠ p % 8) (hE : eN E ≤ 400000) (hm0 : ∀ v, mk0 v < 2147483644) (ho0 : ∀ v, od0 v < 2147483644) (hN : 4096 < N) :
    ∀ (m s n1 n2 : Nat) (z w : St) (g : Sg) (R : Rg) (mk : Nat → Nat) (S : Nat → Rs) (Lp : Nat → List Pe) (od : Nat → Nat), s + m = ts T n → m < n1 → m < n2 → zW1 z w T E tl Nm Wy u5 K g R mk S Lp od X XM → (∀ v, mk v ≤ mk0 v + zCn T n s v) → (∀ v, od v ≤ od0 v + zCn T n s v) → (zgI z 7 11 x = D.1 11 ∧ zgI z 7 13 x = D.1 13) → ((D.1 11 = -1 ∨ ∃ t, t < 8 ∧ D.1 11 = Int32.ofNat t ∧ s ≤ t) → zPC 14 z x D) → (¬ D.1 2 = 5 → ¬ D.1 2 = 6 → zPd T R D) → zPm w T K XM kind addr dv D →
    ∃ z' w' g' R' mk' S' Lp' od', fX11_letArrive_80 N K11 n1 0 x1 x2 x (some n) (Int32.ofNat s) z = (zc (fX11_giveBack N 0 x z') fun _ z4 => zl (x2 + 1) fun v7 => K11 0 x1 v7 z4) ∧ fX19_arriveAll_125 N K2 n2 0 y1 (Int32.ofNat (p % 8)) (D.1 11) kind addr dv (some n) (Int32.ofNat s) w = (if dv = (-1 : Int32) then (fX19_arriveAll_204 N K2 0 y1 w') else (zc (fX19_drop N 0 dv w') fun _ z5 => fX19_arriveAll_204 N K2 0 y1 z5)) ∧ zW1 z' w' T E tl Nm Wy u5 K g' R' mk' S' Lp' od' X XM ∧ (∀ d G, d ∈ XM → zMD w T K d G → zMD w' T K d G) ∧ (∀ c n v, R c n = some v → R' c n = some v) ∧ (∀ v, mk' v ≤ mk0 v + zCn T n (ts T n) v) ∧ (∀ v, od' v ≤ od0 v + zCn T n (ts T n) v) ∧ zUd z z' ∧ zTrA T E tl Nm Wy u5 K X N D z w g Lp z' w' g' Lp' ∧ zAp E g g' := by
  have h8 := hc.2.2.1 n hn
  have n24 : n < 24 := Nat.lt_of_lt_of_le hn hc.2.1
  have p8 : p % 8 < 8 := by omega
  intro m
  induction m with
  | zero =>
    intro s n1 n2 z w g R mk S Lp od hs h1 h2 hW hmk hod hx7 hPC hPd hpm
    obtain ⟨n1, rfl⟩ : ∃ k, n1 = k + 1 := ⟨n1 - 1, by omega⟩
    obtain ⟨n2, rfl⟩ : ∃ k, n2 = k + 1 := ⟨n2 - 1, by omega⟩
    have hss : s = ts T n := by omega
    subst hss
    refine ⟨z, w, g, R, mk, S, Lp, od, ?_, ?_, hW, fun _ _ _ y => y, fun _ _ _ y => y, hmk, hod, zUd_rf z, fun I _ y => y, zAp_rf E g⟩
    · show fX11_letArrive_80b N K11 (fX11_letArrive_80 N K11 n1) 0 x1 x2 x (some n) (Int32.ofNat (ts T n)) z = _
      unfold fX11_letArrive_80b
      rw [zd_e, (hW.1.1.1.1.2.1.1 n n24).2.2.1, if_pos (Int32.le_refl _)]
    · show fX19_arriveAll_125b N K2 (fX19_arriveAll_125 N K2 n2) 0 y1 (Int32.ofNat (p % 8)) (D.1 11) kind addr dv (some n) (Int32.ofNat (ts T n)) w = _
      unfold fX19_arriveAll_125b
      rw [zd_e, (hW.1.1.2.1.1.2.1.1 n hn).2.2.1, if_pos (Int32.le_refl _)]
  | succ m ih =>
    intro s n1 n2 z w g R mk S Lp od hs h1 h2 hW hmk hod hx7 hPC hPd hpm
    obtain ⟨n1, rfl⟩ : ∃ k, n1 = k + 1 := ⟨n1 - 1, by omega⟩
    obtain ⟨n2, rfl⟩ : ∃ k, n2 = k + 1 := ⟨n2 - 1, by omega⟩
    have hst : s < ts T n := by omega
    have e1 : fX11_letArrive_80 N K11 (n1 + 1) 0 x1 x2 x (some n) (Int32.ofNat s) z = fX11_letArrive_80b N K11 (fX11_letArrive_80 N K11 n1) 0 x1 x2 x (some n) (Int32.ofNat s) z := rfl
    have e2 : fX19_arriveAll_125 N K2 (n2 + 1) 0 y1 (Int32.ofNat (p % 8)) (D.1 11) kind addr dv (some n) (Int32.ofNat s) w = fX19_arriveAll_125b N K2 (fX19_arriveAll_125 N K2 n2) 0 y1 (Int32.ofNat (p % 8)) (D.1 11) kind addr dv (some n) (Int32.ofNat s) w := rfl
    have ns : ¬ Int32.ofNat (ts T n) ≤ Int32.ofNat s := fun y => by
      have := (zo_le (a := ts T n) (b := s) (by omega) (by omega)).mp y
      omega
    have q8 : (8 * n + s) / 8 = n := by omega
    have qs : (8 * n + s) % 8 = s := by omega
    have hq : tv T (8 * n + s) := ⟨by rw [q8]; exact hn, by rw [q8, qs]; exact hst⟩
    -- the station is passed over
    have skip : fX11_letArrive_80b N K11 (fX11_letArrive_80 N K11 n1) 0 x1 x2 x (some n) (Int32.ofNat s) z = fX11_letArrive_173 N K11 (fX11_letArrive_80 N K11 n1) 0 x1 x2 x n (Int32.ofNat s) z → fX19_arriveAll_125b N K2 (fX19_arriveAll_125 N K2 n2) 0 y1 (Int32.ofNat (p % 8)) (D.1 11) kind addr dv (some n) (Int32.ofNat s) w = fX19_arriveAll_186 N K2 (fX19_arriveAll_125 N K2 n2) 0 y1 (Int32.ofNat (p % 8)) (D.1 11) kind addr dv n (Int32.ofNat s) w → ((D.1 11 = -1 ∨ ∃ t, t < 8 ∧ D.1 11 = Int32.ofNat t ∧ s + 1 ≤ t) → zPC 14 z x D) →
        ∃ z' w' g' R' mk' S' Lp' od', fX11_letArrive_80 N K11 (n1 + 1) 0 x1 x2 x (some n) (Int32.ofNat s) z = (zc (fX11_giveBack N 0 x z') fun _ z4 => zl (x2 + 1) fun v7 => K11 0 x1 v7 z4) ∧ fX19_arriveAll_125 N K2 (n2 + 1) 0 y1 (Int32.ofNat (p % 8)) (D.1 11) kind addr dv (some n) (Int32.ofNat s) w = (if dv = (-1 : Int32) then (fX19_arriveAll_204 N K2 0 y1 w') else (zc (fX19_drop N 0 dv w') fun _ z5 => fX19_arriveAll_204 N K2 0 y1 z5)) ∧ zW1 z' w' T E tl Nm Wy u5 K g' R' mk' S' Lp' od' X XM ∧ (∀ d G, d ∈ XM → zMD w T K d G → zMD w' T K d G) ∧ (∀ c n v, R c n = some v → R' c n = some v) ∧ (∀ v, mk' v ≤ mk0 v + zCn T n (ts T n) v) ∧ (∀ v, od' v ≤ od0 v + zCn T n (ts T n) v) ∧ zUd z z' ∧ zTrA T E tl Nm Wy u5 K X N D z w g Lp z' w' g' Lp' ∧ zAp E g g' := fun y1' y2' y3' => by
      obtain ⟨z', w', g', R', mk', S', Lp', od', a1, a2, a3⟩ := ih (s + 1) n1 n2 z w g R mk S Lp od (by omega) (by omega) (by omega) hW (fun v => Nat.le_trans (hmk v) (Nat.add_le_add_left zCn_s _)) (fun v => Nat.le_trans (hod v) (Nat.add_le_add_left zCn_s _)) hx7 y3' hPd hpm
      refine ⟨z', w', g', R', mk', S', Lp', od', ?_, ?_, a3⟩
      · rw [e1, y1']
        unfold fX11_letArrive_173
        rw [zl_e, zo_i1]; exact a1
      · rw [e2, y2']
        unfold fX19_arriveAll_186
        rw [zl_e, zo_i1]; exact a2
    -- the station hears
    have hear : fX11_letArrive_80b N K11 (fX11_letArrive_80 N K11 n1) 0 x1 x2 x (some n) (Int32.ofNat s) z = fX11_letArrive_121 N K11 (fX11_letArrive_80 N K11 n1) 0 x1 x2 x n (Int32.ofNat s) z → fX19_arriveAll_125b N K2 (fX19_arriveAll_125 N K2 n2) 0 y1 (Int32.ofNat (p % 8)) (D.1 11) kind addr dv (some n) (Int32.ofNat s) w = fX19_arriveAll_154 N K2 (fX19_arriveAll_125 N K2 n2) 0 y1 (Int32.ofNat (p % 8)) (D.1 11) kind addr dv n (Int32.ofNat s) w → zPC 14 z x D → (D.1 11 = -1 ∨ D.1 11 = Int32.ofNat s) → ((D.1 2 = 2 ∨ D.1 2 = 3 ∨ D.1 2 = 4) → s ≠ p % 8) →
        ∃ z' w' g' R' mk' S' Lp' od', fX11_letArrive_80 N K11 (n1 + 1) 0 x1 x2 x (some n) (Int32.ofNat s) z = (zc (fX11_giveBack N 0 x z') fun _ z4 => zl (x2 + 1) fun v7 => K11 0 x1 v7 z4) ∧ fX19_arriveAll_125 N K2 (n2 + 1) 0 y1 (Int32.ofNat (p % 8)) (D.1 11) kind addr dv (some n) (Int32.ofNat s) w = (if dv = (-1 : Int32) then (fX19_arriveAll_204 N K2 0 y1 w') else (zc (fX19_drop N 0 dv w') fun _ z5 => fX19_arriveAll_204 N K2 0 y1 z5)) ∧ zW1 z' w' T E tl Nm Wy u5 K g' R' mk' S' Lp' od' X XM ∧ (∀ d G, d ∈ XM → zMD w T K d G → zMD w' T K d G) ∧ (∀ c n v, R c n = some v → R' c n = some v) ∧ (∀ v, mk' v ≤ mk0 v + zCn T n (ts T n) v) ∧ (∀ v, od' v ≤ od0 v + zCn T n (ts T n) v) ∧ zUd z z' ∧ zTrA T E tl Nm Wy u5 K X N D z w g Lp z' w' g' Lp' ∧ zAp E g g' := fun y1' y2' hpc hts hne => by
      obtain ⟨c0, c1⟩ := zCn_new hc hn hst
      obtain ⟨z1, w1, g1, R1, mk1, S1, Lp1, od1, a1, a2, a3, a4, a5, a6, a7, a8, a9, a10, a11, a12⟩ := zp_station (N := N) (s := p % 8) hW hXM hq (by have := hmk (tw T (8 * n + s)); have := hm0 (tw T (8 * n + s)); have := zCn_le T n s (tw T (8 * n + s)); omega) (by have := hod (tw T (8 * n + s)); have := ho0 (tw T (8 * n + s)); have := zCn_le T n s (tw T (8 * n + s)); omega) p8 hx hpc h13 hto hPd hpm (fun kk => ⟨p, hpv, by rw [hpn, q8], fun y => by
        have := tw_net hc hpv hq (by rw [hpn, q8]) y
        exact hne kk (by rw [this, qs]), by rw [hpn]; exact hu, hrK⟩) hE hN
      rw [q8, qs] at a1 a2
      have bnd : ∀ (f f1 f0 : Nat → Nat), (∀ v, f v ≤ f0 v + zCn T n s v) → (∀ v, f1 v ≤ f v + if v = tw T (8 * n + s) then 1 else 0) → ∀ v, f1 v ≤ f0 v + zCn T n (s + 1) v := fun f f1 f0 q1 q2 v => by
        have r1 := q1 v
        have r2 := q2 v
        have r3 := @zCn_s T n s v
        by_cases e : v = tw T (8 * n + s)
        · rw [if_pos e] at r2
          rw [e] at r1 r2 ⊢
          rw [c0] at r1
          rw [c1]; omega
        · rw [if_neg e] at r2; omega
      obtain ⟨z', w', g', R', mk', S', Lp', od', b1, b2, b3, b4, b5, b6, b7, b8, b9, b10⟩ := ih (s + 1) n1 n2 z1 w1 g1 R1 mk1 S1 Lp1 od1 (by omega) (by omega) (by omega) a3 (bnd mk mk1 mk0 hmk a8) (bnd od od1 od0 hod a9) ⟨(a4 11 (by omega) (by omega) (by omega)).trans hx7.1, (a4 13 (by omega) (by omega) (by omega)).trans hx7.2⟩ (fun y => by
        rcases y with y | ⟨t, t1, t2, t3⟩
        · exact a5 y
        · rcases hts with k | k
          · exact a5 k
          · have := (zo_eq (a := t) (b := s) (by omega) (by omega)).mp (t2.symm.trans k)
            omega) (fun k5 k6 => zPd_mono a7 (hPd k5 k6)) (zPm_fr a6 hpm)
      refine ⟨z', w', g', R', mk', S', Lp', od', ?_, ?_, b3, fun d G hd hG => b4 d G hd (a6 d G hd hG), fun c k v y => b5 c k v (a7 c k v y), b6, b7, zUd_tr a10 b8, fun I st y => b9 I st (st _ _ _ _ _ _ _ _ _ a11 y), zAp_tr a12 b10⟩
      · rw [e1, y1', a1]
        unfold fX11_letArrive_173
        rw [zl_e, zo_i1]; exact b1
      · rw [e2, y2', a2]
        unfold fX19_arriveAll_186
        rw [zl_e, zo_i1]; exact b2
    have c80 : fX11_letArrive_80b N K11 (fX11_letArrive_80 N K11 n1) 0 x1 x2 x (some n) (Int32.ofNat s) z = (if 0 ≤ D.1 11 then (if Int32.ofNat s = D.1 11 then (fX11_letArrive_121 N K11 (fX11_letArrive_80 N K11 n1) 0 x1 x2 x n (Int32.ofNat s) z) else (fX11_letArrive_173 N K11 (fX11_letArrive_80 N K11 n1) 0 x1 x2 x n (Int32.ofNat s) z)) else (if ¬ Int32.ofNat s = Int32.ofNat (p % 8) then (fX11_letArrive_121 N K11 (fX11_letArrive_80 N K11 n1) 0 x1 x2 x n (Int32.ofNat s) z) else (fX11_letArrive_173 N K11 (fX11_letArrive_80 N K11 n1) 0 x1 x2 x n (Int32.ofNat s) z))) := by
      unfold fX11_letArrive_80b
      rw [zd_e, (hW.1.1.1.1.2.1.1 n n24).2.2.1, if_neg ns, hx7.1, hx7.2, h13]
    have c125 : fX19_arriveAll_125b N K2 (fX19_arriveAll_125 N K2 n2) 0 y1 (Int32.ofNat (p % 8)) (D.1 11) kind addr dv (some n) (Int32.ofNat s) w = (if D.1 11 = Int32.ofNat s then (fX19_arriveAll_154 N K2 (fX19_arriveAll_125 N K2 n2) 0 y1 (Int32.ofNat (p % 8)) (D.1 11) kind addr dv n (Int32.ofNat s) w) else (if ¬ D.1 11 = (-1 : Int32) then (fX19_arriveAll_186 N K2 (fX19_arriveAll_125 N K2 n2) 0 y1 (Int32.ofNat (p % 8)) (D.1 11) kind addr dv n (Int32.ofNat s) w) else (if Int32.ofNat s = Int32.ofNat (p % 8) then (fX19_arriveAll_186 N K2 (fX19_arriveAll_125 N K2 n2) 0 y1 (Int32.ofNat (p % 8)) (D.1 11) kind addr dv n (Int32.ofNat s) w) else (fX19_arriveAll_154 N K2 (fX19_arriveAll_125 N K2 n2) 0 y1 (Int32.ofNat (p % 8)) (D.1 11) kind addr dv n (Int32.ofNat s) w)))) := by
      unfold fX19_arriveAll_125b
      rw [zd_e, (hW.1.1.2.1.1.2.1.1 n hn).2.2.1, if_neg ns]
    rcases hto with t | ⟨t, t1, t2⟩
    · rw [t, if_neg (by decide)] at c80
      rw [if_neg (show ¬ D.1 11 = Int32.ofNat s by rw [t]; exact fun y => zo_ne1 (by omega) y.symm), if_neg (show ¬ ¬ D.1 11 = -1 from fun y => y t)] at c125
      by_cases e : Int32.ofNat s = Int32.ofNat (p % 8)
      · rw [if_neg (fun y => y e)] at c80
        rw [if_pos e] at c125
        exact skip c80 c125 (fun _ => hPC (Or.inl t))
      · rw [if_pos e] at c80
        rw [if_neg e] at c125
        exact hear c80 c125 (hPC (Or.inl t)) (Or.inl t) (fun _ y => e (by rw [y]))
    · have ge : (0 : Int32) ≤ D.1 11 := by
        rw [t2]
        exact (zo_le (a := 0) (b := t) (by omega) (by omega)).mpr (by omega)
      rw [if_pos ge, t2] at c80
      by_cases e : s = t
      · rw [if_pos (by rw [e])] at c80
        rw [if_pos (by rw [t2, e])] at c125
        refine hear c80 c125 (hPC (Or.inr ⟨t, t1, t2, by omega⟩)) (Or.inr (by rw [t2, e])) (fun kk => ?_)
        rcases hrk kk with y | ⟨t', y1, y2, y3⟩
        · rw [t2] at y; exact absurd y (zo_ne1 (by omega))
        · have := (zo_eq (a := t) (b := t') (by omega) (by omega)).mp (t2.symm.trans y2)
          omega
      · rw [if_neg (fun y => e ((zo_eq (by omega) (by omega)).mp y))] at c80
        rw [if_neg (fun y => e ((zo_eq (by omega) (by omega)).mp (t2.symm.trans y)).symm), if_pos (by rw [t2]; exact zo_ne1 (by omega))] at c125
        exact skip c80 c125 (fun y => hPC (y.imp id (fun ⟨t', a, b, c⟩ => ⟨t', a, b, by omega⟩)))
