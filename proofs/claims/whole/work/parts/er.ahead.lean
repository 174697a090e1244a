/-! a frame is heard at a station: both sides, to where its content is looked at -/
def mAhC : Nat := 0x400000000000000000000000000000000000000000000000000000000000000000000000000000000000000000000000000000000000000000000000000000000000000000000000000000000000000000000000000000000000000000000000000000000000000000000000000000000000000000000000000040000000000000000000000000000000000000000000000000000000000000000000000000000000000 ||| mX11_release
def mAhM : Nat := 0x2000000000000000000000000000000000000000000000000000000000000000000000000000000000000000000000000000000000000000000000000000000000000000000000000000000000000000000000000000000000000000000000000000000000000000000000000000000000000000000000000000000000000000000 ||| (0x8000000000000000000000000000000000000000000000000000000000000000000000000000000000000000000000000000000000000000000000000000000000000000000000000000000000000000000000000000000000000000000000000000000000000000000000000000000000000000000000000000000000000000000000000000000000000000000000000000000000000000000000000000000000000000000000000 ||| (mX18_endAsking ||| (mX18_takeWaiting ||| (mX19_carry ||| mX19_drop))))
theorem nHeard_W {E : Ev} {g : Sg} {q s b : Nat} {p : Nat} {G : Dg} (h : G ∈ gW (nHeard E b g q s) p) : G ∈ gW g p := by
  unfold nHeard at h
  split at h
  · have h : G ∈ zupd (gW g) q ((gW g q).filter (fun x => wTo x != s)) p := h
    by_cases e : p = q
    · rw [e, zupd_s] at h; rw [e]; exact (List.mem_filter.mp h).1
    · rw [zupd_n e] at h; exact h
  · exact h
theorem zp_arriveHead {z w : St} {T : Tp} {E : Ev} {g : Sg} {Wy : Wyt} {R : Rg} {mk : Nat → Nat} {K : Int32 → Int32 → Int32 → Prop} {X XM TS TA TB : List Nat} {q s x N : Nat} {to kind addr data : Int32} (hp : zIp z w T E g g Wy R mk K X XM TS TA TB) (hq : tv T q) (hs : s < 8) (h13 : zgI z 7 13 x = Int32.ofNat s) (hxX : x ∈ X) (hX : XM.length < 99) (hN : 1481 < N) :
    ∃ z' w', fX11_arriveAt N 0 q x z = fX11_arriveAt_51 N 0 q x (some (tw T q)) z' ∧ fX19_arrive N 0 q (Int32.ofNat s) to kind addr data (zsI w 16 9 (q / 8) (zgI w 16 9 (q / 8) + 1)) = fX19_arrive_68 N 0 q (Int32.ofNat s) to kind addr data w' ∧ zIp z' w' T E (nHeard E (tw T q) g q s) (nHeard E (tw T q) g q s) Wy R mk K X XM TS TA TB ∧ zKp X z z' ∧ zKm XM w w' ∧ zFr mAhC z z' ∧ zFr mAhM w w' ∧ (∀ n, zgI z' 5 10 n = if n = q / 8 then zgI z 5 10 n + 1 else zgI z 5 10 n) ∧ (∀ n, zgI w' 16 9 n = if n = q / 8 then zgI w 16 9 n + 1 else zgI w 16 9 n) := by
  obtain ⟨⟨pC, pM, pG, pI, ⟨pWc, pWm, pWw⟩, pE, pU, p15⟩, pR, pWo⟩ := id hp
  obtain ⟨hTC, hc, hEc, hEw, hNd, hWc, hAc, hHc, hNo, hXl⟩ := id pC
  obtain ⟨gWw, gAw, gHw, gWA, g1⟩ := id pI.1
  -- the model
  obtain ⟨w1, hw1⟩ : ∃ y, y = zsI w 16 9 (q / 8) (zgI w 16 9 (q / 8) + 1) := ⟨_, rfl⟩
  have fw : zFr 0x2000000000000000000000000000000000000000000000000000000000000000000000000000000000000000000000000000000000000000000000000000000000000000000000000000000000000000000000000000000000000000000000000000000000000000000000000000000000000000000000000000000000000000000 w w1 := by rw [hw1]; exact zFr_I (zFr_rf _ _) (by decide)
  have M1 : zMV w1 T E g K XM TS TA TB := zMV_fr fw (by decide +kernel) (fun k o i => by rw [hw1]; rfl) pM
  obtain ⟨w', a1, a2, a3, a4⟩ := zm_arriveHead (to := to) (kind := kind) (addr := addr) (data := data) (N := N) M1 pI.1 pI.2.1 hq hs hX hN
  have f16 : zFr mAhM w w' := zFr_tr (zFr_w fw (by decide +kernel)) (zFr_w a4 (by decide +kernel))
  have km : zKm XM w w' := zKm_tr (zKm_fr fw (by decide +kernel) (fun k o i => by rw [hw1]; rfl)) a3
  -- the class
  obtain ⟨z1, hz1⟩ : ∃ y, y = zsI z 5 10 (q / 8) (zgI z 5 10 (q / 8) + 1) := ⟨_, rfl⟩
  obtain ⟨z2, hz2⟩ : ∃ y, y = zsA z1 126 q s (Int32.ofNat (eN E)) := ⟨_, rfl⟩
  have f2 : zFr 0x400000000000000000000000000000000000000000000000000000000000000000000000000000000000000000000000000000000000000000000000000000000000000000000000000000000000000000000000000000000000000000000000000000000000000000000000000000000000000000000000000040000000000000000000000000000000000000000000000000000000000000000000000000000000000 z z2 := by rw [hz2, hz1]; exact zFr_A (zFr_I (zFr_rf _ _) (by decide)) (by decide)
  let gh : Sg := sH g (zupd (gH g) q (zupd (gH g q) s (eN E)))
  have p7 : ∀ u, (∀ j, zgI z2 7 j u = zgI z 7 j u) ∧ ∀ i, zgA z2 125 u i = zgA z 125 u i := fun u => ⟨fun j => by rw [hz2, hz1, zgI_sA, zgI_sI, if_neg (by omega)], fun i => zFr_gA f2 (by decide) u i⟩
  have H2 : zHc z2 T gh := by
    intro p t hp ht
    show zgA z2 126 p t = Int32.ofNat (zupd (gH g) q (zupd (gH g q) s (eN E)) p t)
    rw [hz2, zgA_sA]
    by_cases e : p = q
    · subst e
      rw [zupd_s]
      by_cases e2 : t = s
      · subst e2; rw [if_pos ⟨rfl, rfl, rfl⟩, zupd_s]
      · rw [if_neg (fun y => e2 y.2.2), zupd_n e2, hz1]; exact hHc p t hp ht
    · rw [if_neg (fun y => e y.2.1), zupd_n e, hz1]; exact hHc p t hp ht
  have C2 : zNC z2 T E gh X := ⟨zTC_fr f2 (by decide +kernel) hTC, hc, zEc_fr f2 (by decide) hEc, hEw, ⟨zTr_fr (g := g) f2 (by decide) hNd.1, zCt_fr (g := g) f2 (by decide) hNd.2.1, zQq_fr f2 (by decide) hNd.2.2⟩, zWc_fr (g := g) f2 (by decide) (fun u _ => p7 u) hWc, zAc_fr (g := g) f2 (by decide) hAc, H2, zNo_kp (X := []) (fun u _ => p7 u) hNo, hXl⟩
  have gwh : zGw T E gh := by
    refine ⟨gWw, gAw, ?_, gWA, g1⟩
    intro p t hp ht
    show zupd (gH g) q (zupd (gH g q) s (eN E)) p t ≤ eN E
    by_cases e : p = q
    · subst e
      rw [zupd_s]
      by_cases e2 : t = s
      · subst e2; rw [zupd_s]; exact Nat.le_refl _
      · rw [zupd_n e2]; exact gHw p t hp ht
    · rw [zupd_n e]; exact gHw p t hp ht
  have iI : zGI T E (zPd T R) (nHeard E (tw T q) g q s) := nHeard_I hEw (zPd_cl T R) hq hs pI
  obtain ⟨q0, q1, -, -, -⟩ := hTC.2.2.2 q hq
  have asked := zc_isAsked (N := N) C2.2.2.2.2.2.2.1 gAw hEw hq hs
  have nae : nAsked gh q s = nAsked g q s := rfl
  have base : fX11_arriveAt N 0 q x z = (zc (some (zbi (nAsked g q s), z2)) fun r7 z8 => if r7 = 0 then (fX11_arriveAt_51 N 0 q x (some (tw T q)) z8) else (zc (fX11_release N 0 q (zgI z8 7 13 x) z8) fun _ z13 => fX11_arriveAt_51 N 0 q x (some (tw T q)) z13)) := by
    unfold fX11_arriveAt
    rw [q0, zl_e, q1, zl_e, zd_e, ← hz1, zl_e]
    have e13 : zgI z1 7 13 x = Int32.ofNat s := by rw [hz1, zgI_sI, if_neg (by omega)]; exact h13
    have e4 : zgI z1 11 4 0 = Int32.ofNat (eN E) := by rw [hz1, zgI_sI, if_neg (by omega)]; exact hEc.1
    have e13b : zgI z2 7 13 x = Int32.ofNat s := ((p7 x).1 13).trans h13
    rw [e13, zkk (by omega) (by omega), zl_e, zoC (by omega), e4, ← hz2, e13b, asked, nae]
  rw [base, zc_e]
  have stay : ∀ {z' : St} {g' : Sg}, zFr mAhC z z' → g' = nHeard E (tw T q) g q s → zNC z' T E g' X → z5 z z' → zIp z' w' T E g' g' Wy R mk K X XM TS TA TB := by
    intro z' g' f hg' hC h5
    subst hg'
    refine ⟨⟨hC, a2, zGw_c iI.1, iI, ⟨zWyc_fr f (by decide +kernel) pWc, zWym_fr f16 (by decide +kernel) pWm, pWw⟩, zRE_fr f (by decide +kernel) f16 (by decide +kernel) pE, zUt_keep h5 f16 (by decide +kernel) pU, (zFr_gI f (by decide) (by decide +kernel) 0).trans p15⟩, zRg_same pR (fun c => h5 c 2 (by decide)), fun p hp G hG => pWo p hp G (nHeard_W hG)⟩
  have m16 : ∀ n, zgI w' 16 9 n = if n = q / 8 then zgI w 16 9 n + 1 else zgI w 16 9 n := fun n => by
    rw [zFr_gI a4 (by decide) (by decide +kernel) n, hw1, zgI_sI]
    by_cases e : n = q / 8
    · rw [if_pos ⟨rfl, rfl, e⟩, if_pos e, e]
    · rw [if_neg (fun y => e y.2.2), if_neg e]
  have c5 : ∀ n, zgI z2 5 10 n = if n = q / 8 then zgI z 5 10 n + 1 else zgI z 5 10 n := fun n => by
    rw [hz2, zgI_sA, hz1, zgI_sI]
    by_cases e : n = q / 8
    · rw [if_pos ⟨rfl, rfl, e⟩, if_pos e, e]
    · rw [if_neg (fun y => e y.2.2), if_neg e]
  cases hn : nAsked g q s with
  | false =>
    rw [if_pos (show zbi false = 0 from rfl)]
    have fz : zFr mAhC z z2 := zFr_w f2 (by decide +kernel)
    have eg : gh = nHeard E (tw T q) g q s := by unfold nHeard; rw [hn]; rfl
    exact ⟨z2, w', rfl, by rw [← hw1]; exact a1, by rw [← eg] ; exact stay fz eg C2 (z5_fr f2 (by decide)), fun u _ => p7 u, km, fz, f16, c5, m16⟩
  | true =>
    rw [if_neg (show ¬ zbi true = 0 by decide), ((p7 x).1 13).trans h13]
    obtain ⟨z3, r1, r2, r3⟩ := zc_release (N := N) C2 gwh hq hs hN
    have f3 : zFr mX11_release z2 z3 := wX11_release (Nat.and_self _) (zFr_rf _ _) _ _ r1
    have fz : zFr mAhC z z3 := zFr_tr (zFr_w f2 (by decide +kernel)) (zFr_w f3 (by decide +kernel))
    have eg : nRel E (tw T q) gh q s = nHeard E (tw T q) g q s := by unfold nHeard; rw [hn]; rfl
    rw [r1, zc_e]
    exact ⟨z3, w', rfl, by rw [← hw1]; exact a1, by rw [← eg]; exact stay fz eg r2 (z5_tr (z5_fr f2 (by decide)) (z5_release (z5_rf _) _ _ r1)), fun u hu => ⟨fun j => ((r3 u hu).1 j).trans ((p7 u).1 j), fun i => ((r3 u hu).2 i).trans ((p7 u).2 i)⟩, km, fz, f16, fun n => (zFr_gI f3 (by decide) (by decide +kernel) n).trans (c5 n), m16⟩
