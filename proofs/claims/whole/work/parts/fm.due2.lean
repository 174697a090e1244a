/-! all frames that are due: the loops -/
theorem zQI_sub {T : Tp} {QF : Fr → Prop} {QW : Nat → Nat → Dg → Prop} {g : Sg} {L : List Fr} (hL : ∀ f, f ∈ L → f ∈ gF g) (h : zQI T QF QW g) : zQI T QF QW (sF g L) := ⟨fun f hf => h.1 f (hL f hf), h.2.1, h.2.2⟩
/-- how many are due -/
def nDu (E : Ev) (L : List Fr) : Nat := (L.filter (fun f => decide (f.1 = eN E))).length
theorem nDu_0 {E : Ev} {L : List Fr} (h : ∀ f, f ∈ L → f.1 ≠ eN E) : nDu E L = 0 := by
  unfold nDu
  rw [List.filter_eq_nil_iff.mpr (fun f hf => by simpa using h f hf)]; rfl
theorem nDu_app {E : Ev} {A B : List Fr} : nDu E (A ++ B) = nDu E A + nDu E B := by
  unfold nDu
  rw [List.filter_append, List.length_append]
theorem zp_due {T : Tp} {E : Ev} {tl Nm : Nat → Nat} {Wy : Wyt} {u5 : Nat → Prop} {K : Int32 → Int32 → Int32 → Prop} {N : Nat} {mk0 od0 : Nat → Nat} (hc : zTc T) (hE : eN E ≤ 400000) (hm0 : ∀ v, mk0 v < 2147483000) (ho0 : ∀ v, od0 v < 2147483000) (hN : 4096 < N) :
    ∀ (m i k n1 n2 : Nat) (z w : St) (g : Sg) (R : Rg) (mk : Nat → Nat) (S : Nat → Rs) (Lp : Nat → List Pe) (od : Nat → Nat), nDu E (gF g) = m → i + m ≤ 512 → m < n1 → (512 - k) + m < n2 → zW1 z w T E tl Nm Wy u5 K g R mk S Lp od [] [] → k ≤ (gF g).length → (∀ f, f ∈ (gF g).take k → f.1 ≠ eN E) → (∀ v, mk v ≤ mk0 v + i) → (∀ v, od v ≤ od0 v + i) →
    ∃ z' w' g' R' mk' S' Lp' od', fX11_letArrive_11 N n1 0 (Int32.ofNat (eN E % 256)) (Int32.ofNat i) z = some (0, z') ∧ fX19_arriveAll_2 N n2 0 (Int32.ofNat k) w = some (0, w') ∧ zW1 z' w' T E tl Nm Wy u5 K g' R' mk' S' Lp' od' [] [] ∧ (∀ c n v, R c n = some v → R' c n = some v) ∧ (∀ v, mk' v ≤ mk0 v + 512) ∧ (∀ v, od' v ≤ od0 v + 512) ∧ zUd z z' ∧ (∀ f, f ∈ gF g' → f.1 ≠ eN E) ∧ zTrD T E tl Nm Wy u5 K N z w g Lp z' w' g' Lp' := by
  intro m
  induction m with
  | zero =>
    intro i k n1 n2 z w g R mk S Lp od hdu him h1 h2 hW hk hno hmk hod
    obtain ⟨n1, rfl⟩ : ∃ j, n1 = j + 1 := ⟨n1 - 1, by omega⟩
    have all : ∀ f, f ∈ gF g → f.1 ≠ eN E := fun f hf y => by
      unfold nDu at hdu
      have := List.length_eq_zero_iff.mp hdu
      have m : f ∈ (gF g).filter (fun f => decide (f.1 = eN E)) := List.mem_filter.mpr ⟨hf, by simpa using y⟩
      rw [this] at m; cases m
    obtain ⟨h23, hl, h24⟩ := zm_fLen hW.1
    have hGI : ∀ f, f ∈ gF g → zFo T E f := fun f hf => by
      obtain ⟨⟨-, -, -, p4, -⟩, -⟩ := hW.1
      exact (p4.2.2.2.1 f hf).1
    refine ⟨z, w, g, R, mk, S, Lp, od, ?_, ?_, hW, fun _ _ _ y => y, fun v => by have := hmk v; omega, fun v => by have := hod v; omega, zUd_rf z, all, fun I _ y => y⟩
    · show fX11_letArrive_11b N (fX11_letArrive_11 N n1) 0 (Int32.ofNat (eN E % 256)) (Int32.ofNat i) z = _
      unfold fX11_letArrive_11b
      by_cases c : (512 : Int32) ≤ Int32.ofNat i
      · rw [if_pos c]
      · rw [if_neg c, zkk (by omega) (by omega), zl_e, zoC (by omega)]
        have e : zgQ z 141 0 (eN E % 256) = none := by
          cases e : zgQ z 141 0 (eN E % 256) with
          | none => rfl
          | some x =>
            obtain ⟨A, f, B, _, _, _, _, _, _, q1, q2, -⟩ := zIp_pop (N := N) hW.1 (by omega) e (by omega)
            have hf : f ∈ gF g := by rw [q1]; simp
            obtain ⟨-, f1, f2, -⟩ := hGI f hf
            exact absurd (by omega) (all f hf)
        rw [e]; rfl
    · obtain ⟨n2, rfl⟩ : ∃ j, n2 = (j + 1) + ((gF g).length - k) := ⟨n2 - 1 - ((gF g).length - k), by omega⟩
      rw [zm_scan hW.1 (by omega) hE ((gF g).length - k) k (n2 + 1) (by omega) (fun j f _ _ hj => ⟨all f (List.mem_of_getElem? hj), by have := (hGI f (List.mem_of_getElem? hj)).2.1; omega⟩), show k + ((gF g).length - k) = (gF g).length by omega]
      show fX19_arriveAll_2b N (fX19_arriveAll_2 N n2) 0 (Int32.ofNat (gF g).length) w = _
      unfold fX19_arriveAll_2b
      rw [h23, if_pos (Int32.le_refl _)]
  | succ m ih =>
    intro i k n1 n2 z w g R mk S Lp od hdu him h1 h2 hW hk hno hmk hod
    obtain ⟨n1, rfl⟩ : ∃ j, n1 = j + 1 := ⟨n1 - 1, by omega⟩
    obtain ⟨hp, hB, hA, hP, hMs, hQ, hrP, h5⟩ := id hW
    obtain ⟨h23, hl, h24⟩ := zm_fLen hp
    have hGI : ∀ f, f ∈ gF g → zFo T E f ∧ (¬ f.2.1 2 = 5 → ¬ f.2.1 2 = 6 → zPd T R f.2) := fun f hf => by
      obtain ⟨⟨-, -, -, p4, -⟩, -⟩ := hp
      exact p4.2.2.2.1 f hf
    -- some frame stands at the place
    obtain ⟨x, ex⟩ : ∃ x, zgQ z 141 0 (eN E % 256) = some x := by
      cases e : zgQ z 141 0 (eN E % 256) with
      | some x => exact ⟨x, rfl⟩
      | none =>
        have hq : zQq z (gF g) [] := by
          obtain ⟨⟨p1, -⟩, -⟩ := hp
          obtain ⟨-, -, -, -, ⟨-, -, t3⟩, -⟩ := p1
          exact t3
        have no := zc_empty hq (by omega) e
        have : nDu E (gF g) = 0 := nDu_0 (fun f hf y => no f hf (by rw [y]))
        omega
    obtain ⟨A, f, B, z1, w1, kind, addr, dv, XM, a1, a2, a3, a4, a5, ⟨b0, b1, b2, b3, b4, b5, b6⟩, a7, a8, a9, a10, f1, k7, f2⟩ := zIp_pop (N := N) hp (by omega) ex (by omega)
    have hfm : f ∈ gF g := by rw [a1]; simp
    obtain ⟨⟨hDw, hf1, hf2, hf12, hto⟩, hPd⟩ := hGI f hfm
    have hdue : f.1 = eN E := by omega
    have hAno : ∀ a, a ∈ A → a.1 ≠ eN E := fun a ha y => a3 a ha (by rw [y])
    have lA : (gF g).length = A.length + (B.length + 1) := by rw [a1]; simp
    have kA : k ≤ A.length := by
      refine Nat.not_lt.mp (fun y => ?_)
      have e0 : (gF g)[A.length]? = some f := by rw [a1, List.getElem?_append_right (Nat.le_refl _)]; simp
      have e1 : ((gF g).take k)[A.length]? = some f := by rw [List.getElem?_take_of_lt y]; exact e0
      exact hno f (List.mem_of_getElem? e1) hdue
    have TA1 : zTA w1 T = zTA w T := zTA_cg (fun c k _ _ => zFr_gA f2 (by decide) c k)
    have TB1 : zTB w1 T = zTB w T := zTB_cg (fun j v hj => by rcases hj with rfl | rfl <;> exact zFr_gI f2 (by decide) (by decide) v)
    have sub : ∀ h, h ∈ A ++ B → h ∈ gF g := fun h hh => by
      rw [a1]
      rcases List.mem_append.mp hh with y | y
      · exact List.mem_append_left _ y
      · exact List.mem_append_right _ (List.mem_cons_of_mem _ y)
    have qt : zQt T z z1 w w1 := ⟨zFr_w f1 (by decide), zK7_s k7, zS4_fr (zS4_rf hp.1.1.1) f1 (by decide) (by decide), zFr_w f2 (by decide)⟩
    have W1 := zW1_q hW qt (by rw [TA1, TB1]; exact a10) (fun _ _ _ y => y) (zQI_sub sub hQ)
    obtain ⟨p, p1, p2, p3, p4, p5, p6, p7⟩ := hQ.1 f hfm
    have n24 : p / 8 < 24 := Nat.lt_of_lt_of_le p1.1 hc.2.1
    have hXM : XM.length ≤ 30 := by
      rcases a7 with ⟨-, y⟩ | ⟨d, -, -, y⟩
      · rw [y]; simp
      · rw [y]; simp
    obtain ⟨z2, w2, g2, R2, mk2, S2, Lp2, od2, c1, c2, c3, c4, c5, c6, c7, c8, c9, c10⟩ := zp_frameL (N := N) (p := p) (n := p / 8) (x := x) (x1 := Int32.ofNat (eN E % 256)) (x2 := Int32.ofNat i) (y1 := Int32.ofNat A.length) (K11 := fX11_letArrive_11 N n1) (K2 := fX19_arriveAll_2 N (n2 - (A.length - k) - 1)) (mk0 := mk) (od0 := od) hc hXM (by simp) p1.1 p1 rfl p3 hto (p5 hdue) p6 p7 hE (fun v => by have := hmk v; have := hm0 v; omega) (fun v => by have := hod v; have := ho0 v; omega) hN (ts T (p / 8)) 0 N N z1 w1 _ R mk S Lp od (by omega) (by have := hc.2.2.1 _ p1.1; omega) (by have := hc.2.2.1 _ p1.1; omega) W1 (fun v => Nat.le_add_right _ _) (fun v => Nat.le_add_right _ _) ⟨a9.1 11 (by omega) (by omega), a9.1 13 (by omega) (by omega)⟩ (fun _ => a9) hPd a8
    obtain ⟨z3, d1, d2, d3, d4⟩ := zIp_giveB (N := N) c3.1
    have W3 : zW1 z3 w2 T E tl Nm Wy u5 K g2 R2 mk2 S2 Lp2 od2 [] XM := zW1_q c3 ⟨zFr_w d3 (by decide), zK7_s d4, zS4_fr (zS4_rf c3.1.1.1.1) d3 (by decide) (by decide), zFr_rf _ _⟩ d2 (fun _ _ _ y => y) c3.2.2.2.2.2.1
    -- the model's hands
    obtain ⟨w3, W4, hdrop, f3⟩ : ∃ w3, zW1 z3 w3 T E tl Nm Wy u5 K g2 R2 mk2 S2 Lp2 od2 [] [] ∧ (if dv = (-1 : Int32) then (fX19_arriveAll_204 N (fX19_arriveAll_2 N (n2 - (A.length - k) - 1)) 0 (Int32.ofNat A.length) w2) else (zc (fX19_drop N 0 dv w2) fun _ z5 => fX19_arriveAll_204 N (fX19_arriveAll_2 N (n2 - (A.length - k) - 1)) 0 (Int32.ofNat A.length) z5)) = fX19_arriveAll_2 N (n2 - (A.length - k) - 1) 0 (Int32.ofNat A.length) w3 ∧ zFr mX19_drop w2 w3 := by
      rcases a7 with ⟨y1, y2⟩ | ⟨d, y0, y1, y2⟩
      · rw [y2] at W3
        refine ⟨w2, W3, ?_, zFr_rf _ _⟩
        rw [if_pos y1]; rfl
      · rw [y2] at W3
        obtain ⟨w3, e1, e2, e3, -⟩ := zW1_drop (N := N) W3
        refine ⟨w3, e2, ?_, e3⟩
        rw [if_neg (by rw [y1]; exact zo_ne1 (by omega)), y1, e1, zc_e]; rfl
    obtain ⟨V, v1, v2⟩ := c10
    have v1 : gF g2 = (A ++ B) ++ V := v1
    have hV0 : nDu E V = 0 := nDu_0 (fun f hf y => by have := v2 f hf; omega)
    have hdu2 : nDu E (gF g2) = m := by
      have e1 : nDu E (gF g) = nDu E A + nDu E (f :: B) := by rw [a1]; exact nDu_app
      have e2 : nDu E (f :: B) = nDu E B + 1 := by
        unfold nDu
        rw [List.filter_cons, if_pos (by simpa using hdue)]; rfl
      rw [v1, nDu_app, nDu_app, hV0]; omega
    have lB : A.length + B.length + 1 ≤ 512 := by omega
    have tk : (gF g2).take A.length = A := by rw [v1, List.append_assoc, List.take_left']; rfl
    obtain ⟨z', w', g', R', mk', S', Lp', od', e1, e2, e3, e4, e5, e6, e7, e8, e9⟩ := ih (i + 1) A.length n1 (n2 - (A.length - k) - 1) z3 w3 g2 R2 mk2 S2 Lp2 od2 hdu2 (by omega) (by omega) (by omega) W4 (by rw [v1, List.length_append, List.length_append]; omega) (fun h hh => by rw [tk] at hh; exact hAno h hh) (fun v => by have := c6 v; have := zCn_le T (p / 8) (ts T (p / 8)) v; have := hmk v; omega) (fun v => by have := c7 v; have := zCn_le T (p / 8) (ts T (p / 8)) v; have := hod v; omega)
    refine ⟨z', w', g', R', mk', S', Lp', od', ?_, ?_, e3, fun c k v y => e4 c k v (c5 c k v y), e5, e6, zUd_tr (zUd_q (zUd_rf z) qt) (zUd_tr c8 (zUd_tr (zUd_fr (zUd_rf z2) d3 (by decide)) e7)), e8, fun I st y => e9 I st (st _ _ _ _ _ _ _ _ ⟨A, f, B, x, z1, w1, z2, w2, a1, hdue, ⟨f1, W1.1.1.1.1⟩, f2, c9, ⟨d3, W3.1.1.1.1⟩, f3⟩ y)⟩
    · show fX11_letArrive_11b N (fX11_letArrive_11 N n1) 0 (Int32.ofNat (eN E % 256)) (Int32.ofNat i) z = _
      unfold fX11_letArrive_11b
      have e139 : zgQ z1 139 0 (p / 8) = some (p / 8) := (W1.1.1.1.1.2.1.1 _ n24).1
      have e712 : zgI z1 7 12 x = Int32.ofNat (p / 8) := (a9.1 12 (by omega) (by omega)).trans p2
      rw [if_neg (show ¬ (512 : Int32) ≤ Int32.ofNat i from fun y => by
        have := (zo_le (a := 512) (b := i) (by omega) (by omega)).mp y
        omega), zkk (by omega) (by omega), zl_e, zoC (by omega), ex, zo_e]
      have := a4 (fX11_letArrive_11 N n1) (Int32.ofNat i)
      rw [zoC (by omega)] at this
      rw [this, e712, zkk (by omega) (by omega), zl_e, zoC (by omega), e139]
      refine c1.trans ?_
      rw [d1, zc_e, zl_e, zo_i1]
      exact e1
    · obtain ⟨n3, hn3⟩ : ∃ j, n2 = (j + 1) + (A.length - k) := ⟨n2 - (A.length - k) - 1, by omega⟩
      have hn3' : n2 - (A.length - k) - 1 = n3 := by omega
      rw [hn3'] at c2 hdrop e2
      rw [hn3, zm_scan hp (by omega) hE (A.length - k) k (n3 + 1) (by omega) (fun j h j1 j2 hj => by
        have hjA : A[j]? = some h := by
          rw [a1, List.getElem?_append_left (by omega)] at hj; exact hj
        exact ⟨hAno h (List.mem_of_getElem? hjA), by have := (hGI h (List.mem_of_getElem? hj)).1.2.1; omega⟩), show k + (A.length - k) = A.length by omega]
      show fX19_arriveAll_2b N (fX19_arriveAll_2 N n3) 0 (Int32.ofNat A.length) w = _
      unfold fX19_arriveAll_2b
      have ej : ∀ j : Nat, j < 7 → (7 : Int32) * Int32.ofNat A.length + Int32.ofNat j = Int32.ofNat (7 * A.length + j) := fun j _ => by
        rw [show (7 : Int32) * Int32.ofNat A.length = Int32.ofNat (7 * A.length) from (Int32.ofNat_mul 7 A.length).symm]; exact zo_add (7 * A.length) j
      have e0 : (7 : Int32) * Int32.ofNat A.length = Int32.ofNat (7 * A.length) := (Int32.ofNat_mul 7 A.length).symm
      have k1 : (7 : Int32) * Int32.ofNat A.length + 1 = Int32.ofNat (7 * A.length + 1) := ej 1 (by omega)
      have k2 : (7 : Int32) * Int32.ofNat A.length + 2 = Int32.ofNat (7 * A.length + 2) := ej 2 (by omega)
      have k3 : (7 : Int32) * Int32.ofNat A.length + 3 = Int32.ofNat (7 * A.length + 3) := ej 3 (by omega)
      have k4 : (7 : Int32) * Int32.ofNat A.length + 4 = Int32.ofNat (7 * A.length + 4) := ej 4 (by omega)
      have k5 : (7 : Int32) * Int32.ofNat A.length + 5 = Int32.ofNat (7 * A.length + 5) := ej 5 (by omega)
      have k6 : (7 : Int32) * Int32.ofNat A.length + 6 = Int32.ofNat (7 * A.length + 6) := ej 6 (by omega)
      have n187 : zgQ w1 187 0 (p / 8) = some (p / 8) := (W1.1.1.2.1.1.2.1.1 _ p1.1).1
      rw [h23, if_neg (by rw [zo_le (by omega) (by omega)]; omega), k1, k2, k3, k4, k5, k6, e0, zkk (by omega) (by omega), zoC (k := 7 * A.length + 6) (by omega), b6, h24, hdue, if_pos rfl, zkk (by omega) (by omega), zl_e, zoC (k := 7 * A.length) (by omega), b0, zkk (by omega) (by omega), zl_e, zoC (k := 7 * A.length + 1) (by omega), b1, zkk (by omega) (by omega), zl_e, zoC (k := 7 * A.length + 2) (by omega), b2, zkk (by omega) (by omega), zl_e, zoC (k := 7 * A.length + 3) (by omega), b3, zkk (by omega) (by omega), zl_e, zoC (k := 7 * A.length + 4) (by omega), b4, zkk (by omega) (by omega), zl_e, zoC (k := 7 * A.length + 5) (by omega), b5, a5, zc_e, p2, zkk (by omega) (by omega), zl_e, zoC (by omega), n187, p3]
      exact (c2.trans hdrop).trans e2
