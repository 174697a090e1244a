/-! ways, both sides -/
def wI (W : Wy) : Int32 × Int32 × Int32 := match W with | none => (-1, -1, -1) | some (c, x, m) => (Int32.ofNat c, Int32.ofNat x, Int32.ofNat m)
theorem zYw_I {z : St} {b n : Nat} {W : Wy} (h : zYw z b n W) : zgA z 106 b n = (wI W).1 ∧ zgA z 107 b n = (wI W).2.1 ∧ zgA z 108 b n = (wI W).2.2 := by
  cases W with
  | none => exact h
  | some a => exact h
theorem zYx_I {w : St} {b n : Nat} {W : Wy} (h : zYx w b n W) : zgA w 155 b n = (wI W).1 ∧ zgA w 156 b n = (wI W).2.1 ∧ zgA w 157 b n = (wI W).2.2 := by
  cases W with
  | none => exact h
  | some a => exact h
/-- what is so of a base, beyond its form -/
def zBt (T : Tp) (Ba : Nat → Option Ad) : Prop := zBn Ba ∧ ∀ r, ∀ e, e ∈ bE Ba r → e.2.1 < tn T
/-- and of what a router tells of itself -/
def zOa (T : Tp) (b : Nat) (L : List En) : Prop := zEs L ∧ ∀ e, e ∈ L → e.1 ≠ 0 → e.1 - 1 < tb T ∧ e.1 - 1 ≠ b ∧ tr T (e.1 - 1) = true ∧ (∃ q, tpo T b e.2.1 = some q) ∧ ∃ q, tpo T (e.1 - 1) e.2.1 = some q
theorem pTl_none {L : List En} {n m : Nat} (h : ∀ e, e ∈ L → e.2.1 < m) (hn : m ≤ n) : pTl L n = 0 := by
  unfold pTl
  cases e : L.find? (fun e => e.1 == 0 && e.2.1 == n) with
  | none => rfl
  | some a =>
    have h1 := h a (List.mem_of_find?_eq_some e)
    have h2 := List.find?_some e
    rw [Bool.and_eq_true] at h2
    have : a.2.1 = n := by simpa using h2.2
    omega
theorem cWay_none {T : Tp} {E : Ev} {tl : Nat → Nat} {b n : Nat} {Ba : Nat → Option Ad} (hc : zTc T) (hb : b < tb T) (hB : zBt T Ba) (hn : tn T ≤ n) : cWay T E tl b Ba n = none := by
  unfold cWay rWay
  have : tpo T b n = none := by
    cases e : tpo T b n with
    | none => rfl
    | some p =>
      obtain ⟨p1, p2, p3, -⟩ := tpo_some hc hb e
      have := p1.1; omega
  rw [this]
  have hq : ∀ t, pTl (bE Ba t) n = 0 := fun t => pTl_none (hB.2 t) hn
  have h0 : ∀ (d h : Nat → Nat) k, cFar d h (fun t => pTl (bE Ba t) n) k = (FARn, 0) := fun d h k => by
    induction k with
    | zero => rfl
    | succ k ih => unfold cFar; rw [if_pos (Or.inr (hq k))]; exact ih
  show wFar _ _ _ = none
  unfold wFar
  rw [h0, if_pos rfl]
theorem mWay_c {T : Tp} {E : Ev} {tl : Nat → Nat} {b n : Nat} {Ba : Nat → Option Ad} {D : Nat → Nat → Nat} (hb : b < 16) (hBn : zBn Ba) (hF : zFW Ba 16 D) (hs : zEs (bE Ba b)) : mWay T E tl b Ba D n = cWay T E tl b Ba n := by
  have : wMod Ba D (fun t => pTl (bE Ba t) n) b = wFar (dij Ba b 16 (dij0 b)).2.1 (dij Ba b 16 (dij0 b)).2.2 (fun t => pTl (bE Ba t) n) := wFar_eq hb (zBn_b hBn) (zDn_dij hb (zBn_b hBn)) hF hs (fun t => pTl_le (hBn t) n)
  unfold mWay cWay rWay
  cases tpo T b n with
  | none => exact this
  | some p => dsimp only; rw [this]
theorem cWay_ok {T : Tp} {E : Ev} {tl : Nat → Nat} {b n : Nat} {Ba : Nat → Option Ad} {D : Nat → Nat → Nat} (hc : zTc T) (hb : b < tb T) (hBn : zBn Ba) (hF : zFW Ba 16 D) (hO : zOa T b (bE Ba b)) (htl : ∀ p, tv T p → tl p ≤ 1000) : zWw1 T (wI (cWay T E tl b Ba n)) b n := by
  have hb16 : b < 16 := Nat.lt_of_lt_of_le hb hc.1
  have F9 : FARn = 1000000000 := rfl
  have far : zWw1 T (wI (wFar (dij Ba b 16 (dij0 b)).2.1 (dij Ba b 16 (dij0 b)).2.2 (fun t => pTl (bE Ba t) n))) b n := by
    have hS := zDn_dij (Ba := Ba) hb16 (zBn_b hBn)
    generalize dij Ba b 16 (dij0 b) = s at *
    unfold wFar
    obtain ⟨a, a2, c, -⟩ := cFar_all (d := s.2.1) (h := s.2.2) (q := fun t => pTl (bE Ba t) n) hS.df (fun t => pTl_le (hBn t) n) 16
    generalize cFar s.2.1 s.2.2 (fun t => pTl (bE Ba t) n) 16 = p at *
    by_cases c0 : p.2 = 0
    · rw [if_pos c0]; exact Or.inl ⟨rfl, rfl, rfl⟩
    · rw [if_neg c0]
      rcases c with c | ⟨t, t1, t2, t3, t4, t5⟩
      · rw [c] at c0; exact absurd rfl c0
      · have tb' : t ≠ b := fun y => by rw [y, hS.1.2] at t5; exact c0 t5
        obtain ⟨⟨r, n', w, r16, g1, g2, g3⟩, -⟩ := zDn_h hb16 (zBn_b hBn) hS hF (s.2.1 t) t (Nat.le_refl _) t1 tb' t2
        obtain ⟨o1, o2, o3, ⟨q, o4⟩, q2, o5⟩ := hO.2 _ g1.1 (Nat.succ_ne_zero r)
        have e1 : (p.2 - 1) % 16 = r := by omega
        have e2 : (p.2 - 1) / 16 = n' := by omega
        rw [e1, e2]
        have tq := pTl_le (hBn t) n
        have dt := (zDn_lt hS t2).1
        have n24 := ((hBn b).2 _ g1.1).2.1
        refine Or.inr ⟨zo_ne1 (by show p.1 < _; have t4 : p.1 = s.2.1 t + pTl (bE Ba t) n := t4; omega), n', q, ?_, rfl, o4, Or.inr ⟨r, q2, o1, o2, o3, rfl, o5⟩⟩
        have := (tpo_some hc hb o4)
        have h3 : q / 8 = n' := this.2.2.1
        have h1 := this.1.1
        omega
  unfold cWay rWay
  cases e : tpo T b n with
  | none => exact far
  | some p =>
    dsimp only
    by_cases c : eU E n = true
    · rw [if_pos c]
      obtain ⟨p1, p2, p3, -⟩ := tpo_some hc hb e
      have := htl p p1
      refine Or.inr ⟨zo_ne1 (by omega), n, p, ?_, rfl, e, Or.inl ⟨rfl, rfl⟩⟩
      have := p1.1; omega
    · rw [if_neg c]; exact far
/-- the ways of b as they are now -/
def wUp (V : Wyt) (b : Nat) (F : Nat → Wy) : Wyt := fun c n => if c = b then wI (F n) else V c n
theorem wUp_s {V : Wyt} {b n : Nat} {F : Nat → Wy} : wUp V b F b n = wI (F n) := if_pos rfl
theorem wUp_n {V : Wyt} {b c n : Nat} {F : Nat → Wy} (h : c ≠ b) : wUp V b F c n = V c n := if_neg h
theorem zIp_ways {z z' w w' : St} {T : Tp} {E : Ev} {g : Sg} {V V' : Wyt} {R : Rg} {mk : Nat → Nat} {K : Int32 → Int32 → Int32 → Prop} {TS TB : List Nat} (hp : zIp z w T E g g V R mk K [] [] TS (zTA w T) TB) (f : zFr mX0_findWays z z') (fm : zFr mX19_ways w w') (h7 : ∀ j u, zgI z' 7 j u = zgI z 7 j u) (hA : ∀ k o i, k = 125 ∨ k = 113 → zgA z' k o i = zgA z k o i) (hL : ∀ k o i, zgL w' k o i = zgL w k o i) (h150 : ∀ o i, zgA w' 150 o i = zgA w 150 o i) (hc : zWyc z' T V') (hm : zWym w' T V') (hw : zWyw T V') : zIp z' w' T E g g V' R mk K [] [] TS (zTA w' T) TB := by
  obtain ⟨⟨p1, p2, p3, p4, -, p8, p9, p10⟩, hR, hW⟩ := hp
  rw [zTA_cg (w := w) (w' := w') (fun b k _ _ => h150 b k)]
  have h5 : z5 z z' := fun c k _ => hA 113 c k (Or.inr rfl)
  exact ⟨⟨zNC_cg f (by decide +kernel) (fun u _ _ _ => ⟨fun j => h7 j u, fun i => hA 125 u i (Or.inl rfl)⟩) (fun c => hA 113 c 5 (Or.inr rfl)) p1, zMV_fr fm (by decide +kernel) hL p2, p3, p4, ⟨hc, hm, hw⟩, zRE_fr f (by decide +kernel) fm (by decide +kernel) p8, zUt_keepM fm (by decide +kernel) (zUt_keepC h5 p9), (zFr_gI f (by decide) (by decide) 0).trans p10⟩, zRg_same hR (fun c => hA 113 c 2 (Or.inr rfl)), hW⟩
/-- a router's ways are found, both sides -/
theorem zp_ways {z w : St} {T : Tp} {E : Ev} {g : Sg} {V : Wyt} {R : Rg} {mk : Nat → Nat} {K : Int32 → Int32 → Int32 → Prop} {TS TB : List Nat} {tl : Nat → Nat} {b N : Nat} {s : Rs} (hp : zIp z w T E g g V R mk K [] [] TS (zTA w T) TB) (hb : b < tb T) (hr : tr T b = true) (hR : zRp z w T E b s) (hlC : zTlC z T tl) (hlM : zTlM w T tl) (hBt : zBt T (rB s)) (hO : zOa T b (bE (rB s) b)) (hup : ∀ j, j < tp T b → zgI w 18 5 (tq T b j) = zbi (eU E (tq T b j / 8))) (hW0 : ∀ n, tn T ≤ n → n < 24 → V b n = (-1, -1, -1)) (hfC : zgI z 0 9 b = 0 → ∀ n, n < 24 → V b n = wI (cWay T E tl b (rB s) n)) (hfM : zgI w 12 23 b = 0 → ∀ n, n < 24 → V b n = wI (cWay T E tl b (rB s) n)) (h01 : zgI w 12 23 b = 0 ∨ zgI w 12 23 b = 1) (hN : 256 < N) :
    ∃ z' w' V', fX11_doRouter_147 N 0 b (some b) z = some (0, z') ∧ fX19_ways N 0 b w = some (0, w') ∧ zIp z' w' T E g g V' R mk K [] [] TS (zTA w' T) TB ∧ zRp z' w' T E b s ∧ (zgI z' 0 9 b = 0 ∧ zgI w' 12 23 b = 0) ∧ (∀ n, n < 24 → V' b n = wI (cWay T E tl b (rB s) n)) ∧ (∀ c n, c ≠ b → V' c n = V c n) ∧
      ((∀ k j o, ¬ (k = 0 ∧ j = 9 ∧ o = b) → zgI z' k j o = zgI z k j o) ∧ (∀ k o i, ¬ (o = b ∧ 106 ≤ k ∧ k ≤ 111) → zgA z' k o i = zgA z k o i) ∧ zFr mX0_findWays z z') ∧
      ((∀ k j o, ¬ (k = 12 ∧ j = 23 ∧ o = b) → zgI w' k j o = zgI w k j o) ∧ (∀ k o i, ¬ (k = 190 ∧ o = 0) → ¬ (o = b ∧ (k = 155 ∨ k = 156 ∨ k = 157)) → zgA w' k o i = zgA w k o i) ∧ (∀ k o i, zgQ w' k o i = zgQ w k o i) ∧ zFr mX19_ways w w') := by
  have hT := hp.1.1.1
  have hc := hp.1.1.2.1
  have hE := hp.1.1.2.2.1
  have hMT := hp.1.2.1.1
  have b16 : b < 16 := Nat.lt_of_lt_of_le hb hc.1
  obtain ⟨wC, wM, wW⟩ := hp.1.2.2.2.2.1
  obtain ⟨hcl, hml, hRw, hRo, h24⟩ := id hR
  have htl : ∀ p, tv T p → tl p ≤ 1000 := fun p hv => (hlC p hv).2.2
  have e1 : zgI z 11 1 0 = Int32.ofNat (tn T) := hT.1.2.1
  -- the class
  have sC : ∃ z', fX11_doRouter_147 N 0 b (some b) z = some (0, z') ∧ (∀ n, n < 24 → zgA z' 106 b n = (wI (cWay T E tl b (rB s) n)).1 ∧ zgA z' 107 b n = (wI (cWay T E tl b (rB s) n)).2.1 ∧ zgA z' 108 b n = (wI (cWay T E tl b (rB s) n)).2.2) ∧ zgI z' 0 9 b = 0 ∧ ((∀ k j o, ¬ (k = 0 ∧ j = 9 ∧ o = b) → zgI z' k j o = zgI z k j o) ∧ (∀ k o i, ¬ (o = b ∧ 106 ≤ k ∧ k ≤ 111) → zgA z' k o i = zgA z k o i) ∧ zFr mX0_findWays z z') := by
    unfold fX11_doRouter_147
    rw [zd_e]
    by_cases c : zgI z 0 9 b = 0
    · rw [if_pos c]
      refine ⟨z, rfl, fun n hn => ?_, c, fun _ _ _ _ => rfl, fun _ _ _ _ => rfl, zFr_rf _ _⟩
      have := wC b n hb hr hn
      rw [hfC c n hn] at this; exact this
    · rw [if_neg c, e1]
      obtain ⟨z', g1, g2, g3, g4, g5⟩ := zc_findWays (N := N) hT hc hE hlC hb hr hcl.2.2.2.1 hBt.1 (by omega)
      rw [g1, zc_e]
      refine ⟨z', rfl, fun n hn => ?_, ?_, fun k j o h => ?_, fun k o i h => ?_, g4⟩
      · by_cases cn : n < tn T
        · exact zYw_I (g2 n cn)
        · have h3 := wC b n hb hr hn
          rw [hW0 n (by omega) hn] at h3
          rw [g5 106 n (by omega) (by omega) (by omega), g5 107 n (by omega) (by omega) (by omega), g5 108 n (by omega) (by omega) (by omega), cWay_none hc hb hBt (by omega)]
          exact h3
      · rw [g3.1 0 9 b, zgI_sI, if_pos ⟨rfl, rfl, rfl⟩]
      · rw [g3.1 k j o, zgI_sI, if_neg h]
      · exact g3.2.1 k o i h
  -- the model
  have sM : ∃ w', fX19_ways N 0 b w = some (0, w') ∧ (∀ n, n < 24 → zgA w' 155 b n = (wI (cWay T E tl b (rB s) n)).1 ∧ zgA w' 156 b n = (wI (cWay T E tl b (rB s) n)).2.1 ∧ zgA w' 157 b n = (wI (cWay T E tl b (rB s) n)).2.2) ∧ (∀ n, n < 24 → zWw1 T (wI (cWay T E tl b (rB s) n)) b n) ∧ zgI w' 12 23 b = 0 ∧ ((∀ k j o, ¬ (k = 12 ∧ j = 23 ∧ o = b) → zgI w' k j o = zgI w k j o) ∧ (∀ k o i, ¬ (k = 190 ∧ o = 0) → ¬ (o = b ∧ (k = 155 ∨ k = 156 ∨ k = 157)) → zgA w' k o i = zgA w k o i) ∧ (∀ k o i, zgQ w' k o i = zgQ w k o i) ∧ zFr mX19_ways w w') ∧ ∀ k o i, zgL w' k o i = zgL w k o i := by
    rcases h01 with c | c
    · refine ⟨w, ?_, fun n hn => ?_, fun n hn => ?_, c, ⟨fun _ _ _ _ => rfl, fun _ _ _ _ _ => rfl, fun _ _ _ => rfl, zFr_rf _ _⟩, fun _ _ _ => rfl⟩
      · unfold fX19_ways
        rw [c, if_neg (fun y => y rfl)]
      · have := wM b n hb hr hn
        rw [hfM c n hn] at this; exact this
      · have := wW b n hb hr hn
        rw [hfM c n hn] at this; exact this
    · obtain ⟨w', D, g1, g2, g3, g4⟩ := zm_ways (N := N) hMT hc hlM hb hr hup hml.2.2.1 hBt.1 c hN
      refine ⟨w', g1, fun n hn => ?_, fun n hn => cWay_ok hc hb hBt.1 g2 hO htl, ?_, ⟨fun k j o h => ?_, fun k o i h h2 => g4.2.1 k o i h h2, fun k o i => g4.2.2.2.1 k o i, ?_⟩, fun k o i => g4.2.2.1 k o i⟩
      · have := zYx_I (g3 n hn)
        rw [mWay_c b16 hBt.1 g2 hO.1] at this; exact this
      · rw [g4.1 12 23 b, zgI_sI, if_pos ⟨rfl, rfl, rfl⟩]
      · rw [g4.1 k j o, zgI_sI, if_neg h]
      · exact zFr_tr (zFr_I (zFr_rf _ _) (by decide)) (zYq_fr g4)
  obtain ⟨z', c1, c2, c3, c4, c5, c6⟩ := sC
  obtain ⟨w', m1, m2, m3, m4, ⟨m5, m6, m7, m8⟩, m9⟩ := sM
  refine ⟨z', w', wUp V b (cWay T E tl b (rB s)), c1, m1, ?_, ⟨?_, ?_, hRw, hRo, ?_⟩, ⟨c3, m4⟩, fun n _ => wUp_s, fun c n h => wUp_n h, ⟨c4, c5, c6⟩, ⟨m5, m6, m7, m8⟩⟩
  · refine zIp_ways hp c6 m8 (fun j u => c4 7 j u (by omega)) (fun k o i h => c5 k o i (by omega)) m9 (fun o i => m6 150 o i (by omega) (by omega)) (fun c n h1 h2 h3 => ?_) (fun c n h1 h2 h3 => ?_) (fun c n h1 h2 h3 => ?_)
    · by_cases e : c = b
      · subst e; rw [wUp_s]; exact c2 n h3
      · rw [wUp_n e, c5 106 c n (fun y => e y.1), c5 107 c n (fun y => e y.1), c5 108 c n (fun y => e y.1)]; exact wC c n h1 h2 h3
    · by_cases e : c = b
      · subst e; rw [wUp_s]; exact m2 n h3
      · rw [wUp_n e, m6 155 c n (by omega) (fun y => e y.1), m6 156 c n (by omega) (fun y => e y.1), m6 157 c n (by omega) (fun y => e y.1)]; exact wM c n h1 h2 h3
    · by_cases e : c = b
      · subst e; rw [wUp_s]; exact m3 n h3
      · rw [wUp_n e]; exact wW c n h1 h2 h3
  · exact zRcl_cg (fun j _ => c4 9 j b (by omega)) (fun j hj => c4 0 j b (by omega)) (fun k o i h => c5 k o i (by omega)) hcl
  · obtain ⟨⟨ids, a1⟩, a2, a3, a4, a5, a6⟩ := hml
    exact ⟨⟨ids, zRmI_cg (m5 12 13 b (by omega)) (fun i => m7 149 b i) (fun x x1 x2 => ⟨fun j _ => m5 15 j x (by omega), fun k i hk => m6 k x i (by omega) (by omega)⟩) a1⟩, zRmT_cg (m5 12 22 b (by omega)) (fun k i hk => m6 k b i (by omega) (by omega)) a2, zRmB_cg (fun k i hk => m6 k b i (by omega) (by omega)) (fun x r _ _ _ k _ => m6 178 0 _ (by omega) (by omega)) a3, (m5 12 16 b (by omega)).trans a4, (m5 12 17 b (by omega)).trans a5, (m5 12 18 b (by omega)).trans a6⟩
  · rw [m5 12 24 b (by omega)]; exact h24
