/-! a host's turn: both sides -/
/-- what the invariant of strays gives for a door with an end -/
def zIg (K : Int32 → Int32 → Int32 → Prop) (z w : St) (e : Nat) : Prop := (zgI z 2 1 e &&& (65535 : Int32) = zgI z 2 1 e ∧ zgI z 2 3 e &&& (65535 : Int32) = zgI z 2 3 e) ∧ (∀ bk, bk < 2592 → zgI w 14 44 e = Int32.ofNat bk → K (zgI z 3 14 e) (Int32.ofNat bk) (zgA w 184 0 bk)) ∧ (¬ zgI z 2 8 e = 0 → ¬ zgI z 4 3 e ≤ 0 → zSafe z w e)
theorem zTA_39 (w : St) (T : Tp) : (zTA w T).length ≤ 3900 := by
  have := zTA_len w T
  omega
theorem zp_doors {T : Tp} {E : Ev} {tl Nm : Nat → Nat} {Wy : Wyt} {u5 : Nat → Prop} {K : Int32 → Int32 → Int32 → Prop} {S : Nat → Rs} {Lp : Nat → List Pe} {od : Nat → Nat} {b N : Nat} {x1 : Int32} {K16 : Nat → Int32 → St → Option (Int32 × St)} {I : Nat → St → St → Sg → Prop} (hc : zTc T) (hb : b < tb T) (hr : tr T b = false) (hE : eN E ≤ 400000) (hN : 3000 < N)
    (hI1 : ∀ i z w g, i < 6 → I i z w g → zgI z 2 0 (6 * b + i) = 2 → zIg K z w (6 * b + i))
    (hI2 : ∀ i z w g z' w' g' mk mk', i < 6 → I i z w g → zgI z 2 0 (6 * b + i) = 2 → zStW T E tl Nm Wy u5 K [] z w g Lp → zTn T E Wy b (6 * b + i) (eN E) N z w g z' w' g' mk mk' → zStW T E tl Nm Wy u5 K [] z' w' g' Lp → I (i + 1) z' w' g')
    (hI3 : ∀ i z w g, i < 6 → I i z w g → ¬ zgI z 2 0 (6 * b + i) = 2 → I (i + 1) z w g) :
    ∀ (m i n1 n2 : Nat) (z w : St) (g : Sg) (R : Rg) (mk : Nat → Nat), i + m = 6 → m < n1 → m < n2 → mk b + 2054 * m < 2147483646 → zW1 z w T E tl Nm Wy u5 K g R mk S Lp od [] [] → I i z w g →
    ∃ z' w' g' R' mk', fX11_doHost_2 N n1 0 b (Int32.ofNat i) z = some (0, z') ∧ fX19_tick_145 N K16 n2 0 x1 b (Int32.ofNat i) w = fX19_tick_168 N K16 0 x1 w' ∧ zW1 z' w' T E tl Nm Wy u5 K g' R' mk' S Lp od [] [] ∧ (∀ c, ¬ c = b → mk' c = mk c) ∧ mk b ≤ mk' b ∧ mk' b + zUs z' b ≤ mk b + zUs z b + 6 * m ∧ (∀ u, ¬ u / 6 = b → dUs z' u = dUs z u) ∧ zAp E g g' ∧ I 6 z' w' g' := by
  intro m
  induction m with
  | zero =>
    intro i n1 n2 z w g R mk him h1 h2 hm hW hI
    obtain ⟨n1, rfl⟩ : ∃ j, n1 = j + 1 := ⟨n1 - 1, by omega⟩
    obtain ⟨n2, rfl⟩ : ∃ j, n2 = j + 1 := ⟨n2 - 1, by omega⟩
    obtain rfl : i = 6 := by omega
    refine ⟨z, w, g, R, mk, ?_, ?_, hW, fun _ _ => rfl, Nat.le_refl _, by omega, fun _ _ => rfl, zAp_rf E g, hI⟩
    · show fX11_doHost_2b N (fX11_doHost_2 N n1) 0 b (Int32.ofNat 6) z = _
      unfold fX11_doHost_2b
      rw [if_pos (by decide)]
    · show fX19_tick_145b N K16 (fX19_tick_145 N K16 n2) 0 x1 b (Int32.ofNat 6) w = _
      unfold fX19_tick_145b
      rw [if_pos (by decide)]
  | succ m ih =>
    intro i n1 n2 z w g R mk him h1 h2 hm hW hI
    obtain ⟨n1, rfl⟩ : ∃ j, n1 = j + 1 := ⟨n1 - 1, by omega⟩
    obtain ⟨n2, rfl⟩ : ∃ j, n2 = j + 1 := ⟨n2 - 1, by omega⟩
    have hi : i < 6 := by omega
    rw [Nat.mul_succ] at hm
    have hm1 : mk b + 2054 < 2147483646 := Nat.lt_of_le_of_lt (Nat.add_le_add_left (Nat.le_add_left 2054 (2054 * m)) (mk b)) hm
    have h16 := hc.1
    obtain ⟨hp, hB, hA, hP, hMs, hQ, hrP, h5⟩ := id hW
    obtain ⟨hg, hyw, hEw, i15⟩ := zGw_ip hp
    have he : hEnd T (6 * b + i) := ⟨by omega, by rw [show (6 * b + i) / 6 = b by omega]; exact hb, by rw [show (6 * b + i) / 6 = b by omega]; exact hr⟩
    obtain ⟨t1, t2, t3, t4, t5⟩ := hp.1.1.1.2.2.1.2 b hb hr i hi
    obtain ⟨u1, u2⟩ := hp.1.2.1.1.2.2.1 b hb hr i hi
    have hRd : zRd z w (6 * b + i) := by
      obtain ⟨⟨-, -, -, -, -, p8, -⟩, -⟩ := hp
      exact p8 b i hb hr hi
    have e1 : fX11_doHost_2 N (n1 + 1) 0 b (Int32.ofNat i) z = if zgI z 2 0 (6 * b + i) = 2 then (zl (zgR z 2 12 (6 * b + i)) fun y6 => zd y6 fun a7 => zc (fX3_ring N a7 (zgI z 11 4 0) z) fun _ z9 => fX11_doHost_44 N (fX11_doHost_2 N n1) N 0 b (Int32.ofNat i) (6 * b + i) a7 (0 : Int32) z9) else (fX11_doHost_97 N (fX11_doHost_2 N n1) 0 b (Int32.ofNat i) z) := by
      show fX11_doHost_2b N (fX11_doHost_2 N n1) 0 b (Int32.ofNat i) z = _
      unfold fX11_doHost_2b
      rw [zlen_h hp.1.1.1 hb, hr, if_neg (show ¬ (6 : Int32) ≤ Int32.ofNat i from fun y => by
        have := (zo_le (a := 6) (b := i) (by omega) (by omega)).mp y
        omega), if_neg (by decide), zkk (by omega) (by omega), zl_e, zoC (by omega), t1, zd_e]
    have e2 : fX19_tick_145 N K16 (n2 + 1) 0 x1 b (Int32.ofNat i) w = (zc (fX19_doorTurn N 0 b (6 * b + i) w) fun _ z6 => zl (Int32.ofNat i + 1) fun v9 => fX19_tick_145 N K16 n2 0 x1 b v9 z6) := by
      show fX19_tick_145b N K16 (fX19_tick_145 N K16 n2) 0 x1 b (Int32.ofNat i) w = _
      unfold fX19_tick_145b
      rw [if_neg (show ¬ (6 : Int32) ≤ Int32.ofNat i from fun y => by
        have := (zo_le (a := 6) (b := i) (by omega) (by omega)).mp y
        omega), zkk (by omega) (by omega), zl_e, zoC (by omega), u1, zd_e]
    by_cases h20 : zgI z 2 0 (6 * b + i) = 2
    · -- an end
      obtain ⟨bk, k1, k2, k3⟩ := hB.2 _ he h20
      rw [show (6 * b + i) / 6 = b by omega] at k3
      obtain ⟨g1, g2, g3⟩ := hI1 i z w g hi hI h20
      obtain ⟨-, -, hEm⟩ := zm_fLen hp
      obtain ⟨z1, w1, gg, R1, mk1, a1, a2, a3, a4, a5, a6, a7⟩ := zp_turnDoor (i := Int32.ofNat i) (K2 := fX11_doHost_2 N n1) (N := N) hp hB.1 he (by omega) k3 hE (zTA_39 w T) hm1 ⟨h20, ⟨t2, t3, t4, t5⟩, g1, ⟨hp.1.1.2.2.1.1, hEm⟩, k2, k1, g2 bk k1 k2⟩ u2 g3 hN
      obtain ⟨b1, b2, b3, b4, b5, b6, b7, b8, b9, b10⟩ := zTn_w a7
      have gi0 : zGI T E (fun _ => True) g := by
        obtain ⟨⟨-, -, -, p4, -⟩, -⟩ := hp
        exact zGI_mono (fun _ _ => trivial) p4
      obtain ⟨Q1, ap1⟩ := zTn_Q (rQcl (Nm := Nm) (u5 := u5) hEw hc) hEw hc hyw hb gi0 (fun D q s hD _ _ _ => rD_no (hD.elim (fun y => Or.inr (Or.inl y)) Or.inl)) a7 hQ
      have TA1 : zTA w1 T = zTA w T := zTA_cg (fun c k _ _ => zAgr_A b3 150 (by decide) c k)
      have W1 : zW1 z1 w1 T E tl Nm Wy u5 K gg R1 mk1 S Lp od [] [] := by
        refine ⟨by rw [TA1]; exact a3, ⟨a4, fun e' he' q => ?_⟩, zWa_a hc (zAgr_le b1 (by decide)) (zAgr_le b3 (by decide)) hA, zWp_a hc (zAgr_le b1 (by decide)) b2 (zAgr_le b3 (by decide)) a5 hP, ⟨fun n => ?_, fun e' he' q => ?_, b7 hMs.2.2.1, fun c hcb => ?_⟩, Q1, hrP, zU5_a (zAgr_le b3 (by decide)) h5⟩
        · by_cases y : e' = 6 * b + i
          · subst y
            rcases b6 (6 * b + i) 44 (Or.inl rfl) with y2 | ⟨-, y2⟩
            · exact ⟨bk, k1, y2.trans k2, by rw [show (6 * b + i) / 6 = b by omega]; exact k3⟩
            · rw [y2] at q; exact absurd q (by decide)
          · obtain ⟨bk', c1, c2, c3⟩ := hB.2 e' he' ((b4 e' y 0 (by omega)).symm.trans q)
            rcases b6 e' 44 (Or.inl rfl) with y2 | ⟨y2, -⟩
            · exact ⟨bk', c1, y2.trans c2, c3⟩
            · exact absurd y2 y
        · rw [b1.1 5 10 n (by decide) (by decide) (by decide), b3.1 16 9 n (by decide) (by decide) (by decide)]; exact hMs.1 n
        · by_cases y : e' = 6 * b + i
          · subst y
            rcases b5 with y2 | y2
            · rw [y2, h20] at q; exact absurd q (by decide)
            · rw [y2] at q; exact absurd q (by decide)
          · rw [b4 e' y 4 (by omega)]
            exact hMs.2.1 e' he' ((b4 e' y 0 (by omega)).symm.trans q)
        · rw [b1.1 1 12 c (by decide) (by decide) (by decide), b3.1 12 29 c (by decide) (by decide) (by decide)]; exact hMs.2.2.2 c hcb
      have I1 := hI2 i z w g z1 w1 gg mk mk1 hi hI h20 ⟨R, mk, S, od, [], hW⟩ a7 ⟨R1, mk1, S, od, [], W1⟩
      have us := zUs_one (x := mk1 b) (y := mk b) hi b8 b10
      obtain ⟨z', w', g', R', mk', c1, c2, c3, c4, c5, c6, c7, c8, c9⟩ := ih (i + 1) n1 n2 z1 w1 gg R1 mk1 (by omega) (by omega) (by omega) (by
        have u0 : (dUs z (6 * b + i)).toNatClampNeg ≤ 2048 := by
          obtain ⟨-, o, nn, W, st, B, L, S', hO, ⟨q1, q2, q3, q4, q5, q6, q7, q8, q9⟩, ⟨r1, r2, r3, r4, r5, r6, r7⟩, -⟩ := zRo_iff.mp (zRd_E hRd h20).2.1
          obtain ⟨B1, BL, SL, -⟩ := zOb_f hO q4
          have : (dUs z (6 * b + i)).toNatClampNeg = L - S' := by
            unfold dUs
            rw [r3, r4, zo_sub SL]; exact zoC (by omega)
          omega
        omega) W1 I1
      refine ⟨z', w', g', R', mk', ?_, ?_, c3, fun c hcb => (c4 c hcb).trans (a6 c hcb), by omega, by omega, fun u hu => (c7 u hu).trans (b8 u (fun y => hu (by rw [y]; omega))), zAp_tr ap1 c8, c9⟩
      · rw [e1, if_pos h20, a1]
        unfold fX11_doHost_97
        rw [zl_e, zo_i1]; exact c1
      · rw [e2, a2, zc_e, zl_e, zo_i1]; exact c2
    · -- none
      have h133 : zgI w 13 3 (6 * b + i) = 0 := by
        rcases hRd.2 with y | y | y
        · exact y.2.2.1
        · exact y.2.2.1
        · exact absurd y.1 h20
      obtain ⟨z', w', g', R', mk', c1, c2, c3, c4, c5, c6, c7, c8, c9⟩ := ih (i + 1) n1 n2 z w g R mk (by omega) (by omega) (by omega) (by omega) hW (hI3 i z w g hi hI h20)
      refine ⟨z', w', g', R', mk', ?_, ?_, c3, c4, c5, by omega, c7, c8, c9⟩
      · rw [e1, if_neg h20]
        unfold fX11_doHost_97
        rw [zl_e, zo_i1]; exact c1
      · have : fX19_doorTurn N 0 b (6 * b + i) w = some (0, w) := by
          unfold fX19_doorTurn
          rw [if_neg (fun y => y h133)]
        rw [e2, this, zc_e, zl_e, zo_i1]; exact c2
