/-! new bytes: both sides -/
theorem zp_goAhead {z w : St} {T : Tp} {E : Ev} {g : Sg} {K : Int32 → Int32 → Int32 → Prop} {X TS TA : List Nat} {e b m n N o nn W st B L S : Nat} (last : Bool) (hn : n ≤ 400000) (hT : zgI w 19 24 0 = Int32.ofNat n) (h16 : zgR z 3 16 e = some e) (h17r : zgR z 3 17 e = some e) (h18 : zgR z 3 18 e = some e) (hM : zMB w T E g K X TS TA) (hX : X.length ≤ 40) (hW : ∀ q, tv T q → (gW g q).length ≤ 16) (hTS : TS.length ≤ 100) (hl : TS.length + TA.length ≤ 4000) (h : zEe z w e) (hst : zgI z 3 0 e = 4 ∨ zgI z 3 0 e = 5 ∨ zgI z 3 0 e = 7 ∨ zgI z 3 0 e = 8 ∨ zgI z 3 0 e = 9) (h11 : zgI z 3 11 e = 0) (hN : 1500 < N) (hO : zOb o nn W B L S)
    (q1 : zgI z 6 5 e = zgI z 6 4 e + Int32.ofNat o) (q2 : zgI z 6 6 e = zgI z 6 4 e + Int32.ofNat nn) (q3 : zgI w 14 8 e = zgI z 6 4 e + Int32.ofNat W) (q4 : 1 ≤ W) (q5 : W ≤ 1100000) (q6 : o ≤ nn) (q9 : L ≤ 2048) (s1 : st < 2048) (r2 : zgI z 6 1 e = Int32.ofNat st) (r4 : zgI z 6 3 e = Int32.ofNat S) (ar : ∀ i, i < L → zgA z 124 e ((st + i) % 2048) = zgA w 159 e ((B - 1 + i) % 2048)) (hm : m ≤ 1460) (hmW : nn + m ≤ W) (hlast : last = true → nn + m = W ∧ zgI z 6 8 e = 1) (r3 : zgI z 6 2 e = Int32.ofNat L) (r6 : zgI z 6 9 e = zbi (decide (nn = W + 1))) (hmm : ¬ m = 0 ∨ last = true) :
    ∃ z' w' s, fX3_goAhead N e 0 (Int32.ofNat m) (zbi last) (Int32.ofNat n) z = some (0, z') ∧ (zc (fX19_toldBy N 0 e (if last = true then 2 else 0) (zgI w 14 7 e) (Int32.ofNat m) w) fun r1 z2 => zl (zsI z2 14 7 e (zgI z2 14 7 e + Int32.ofNat (m + if last = true then 1 else 0))) fun z5 => zc (fX14_isNew N e (zgI z5 19 24 0) z5) fun _ z7 => some (r1, z7)) = some (Int32.ofNat s, w') ∧ zMade z w z' w' T E g K X TS TA e b s ∧ zMsr z' e < zMsr z e := by
  have hq := h.2.2.2.2.2.2.2.2
  have nst : ¬ (zgI z 3 0 e = 0 ∨ zgI z 3 0 e = 1 ∨ zgI z 3 0 e = 2 ∨ zgI z 3 0 e = 3 ∨ zgI z 3 0 e = 10 ∨ zgI z 3 0 e = 11) := by
    intro y
    rcases hst with c | c | c | c | c <;> (rw [c] at y; exact absurd y (by decide))
  have h17 : zgI w 14 17 e = 1 := hq.1 (fun y => nst (by rcases y with y | y | y | y <;> simp [y]))
  have f7 : ¬ zgI z 6 7 e = 0 := hq.2.2.2.2.2.1 nst
  have f4 := h.2.1.1.1
  have f6 := h.2.1.1.2.2.1
  have o1 : 1 ≤ o := by
    obtain ⟨-, o', n', W', st', ⟨p1, p2, p3, -, p5, p6, p7, -⟩, ⟨-, -, -, -, p8, -⟩, -⟩ := h.2.1
    have e1 : o' = o := zo_inj (by omega) (by omega) (p1.symm.trans q1)
    refine Nat.pos_of_ne_zero (fun y => f7 ?_)
    rw [p8, e1, y]; rfl
  obtain ⟨B1, BL, SL, -, Bo, -, BS, -, -⟩ := zOb_f hO q4
  have BS : B + S = nn := BS (by rw [Bo o1 (by omega)]; exact q6) (by omega)
  have hb : ∀ i, i < m → zgA z 124 e ((st + S + i) % 2048) = zgA w 159 e (tdX w e (zgI z 6 6 e) i) := fun i hi => by
    have x1 : tdX w e (zgI z 6 6 e) i = (B - 1 + (S + i)) % 2048 := by
      unfold tdX
      rw [q2, ← f4, Int32.add_assoc, zo_add, zi_dif, zo_s1 (by omega), zun_of (by omega), show nn + i - 1 = B - 1 + (S + i) from by omega]
    rw [x1, Nat.add_assoc]
    exact ar (S + i) (by omega)
  obtain ⟨z1, w1, s, a1, a2, a3, a4, a5, a6, a7⟩ := zp_told (b := b) (N := N) last h16 h17r s1 r2 (by omega) hm hb h17 hM hX hW hTS hl h hN
  have ek := a3.2.2.2.2.2.2.1
  have em := a3.2.2.2.2.2.2.2
  have k6 : ∀ j, zgI z1 6 j e = zgI z 6 j e := fun j => by rw [a4 6 j (by omega), if_neg (by omega)]
  have k3 : ∀ j, ¬ j = 13 → zgI z1 3 j e = zgI z 3 j e := fun j q => by rw [a4 3 j (by omega), if_neg (by omega)]
  have now1 : zgI w1 19 24 0 = Int32.ofNat n := (em.1 19 24 0 (by omega) (by omega)).trans hT
  obtain ⟨z2, w2, c1, c2, c3, c4, c5, c6, c7, c8, c9, c10⟩ := zp_ahead (N := N) (m := m) (st := st) last hn now1 ((ek.2.2.2.2 3 16 e).trans h16) ((ek.2.2.2.2 3 18 e).trans h18) a3.1 (by rw [k3 0 (by omega)]; exact hst) (by rw [k3 11 (by omega)]; exact h11) hO (by rw [k6, k6]; exact q1) (by rw [k6, k6]; exact q2) (by rw [a5 8 (by omega), k6]; exact q3) q4 q5 q6 o1 hmW (fun y => by rw [k6]; exact hlast y)
  refine ⟨z2, w2, s, ?_, ?_, zMade_go a3 c4 c5 c6 c3, ?_⟩
  · unfold fX3_goAhead
    rw [h16, zl_e, zd_e, zl_e, zd_e, r4, a1, zc_e]
    exact c1
  · rw [← f6, a2, zc_e, zl_e]
    have nw : zgI (zsI w1 14 7 e (zgI w1 14 7 e + Int32.ofNat (m + if last = true then 1 else 0))) 19 24 0 = Int32.ofNat n := by rw [zgI_sI, if_neg (by omega)]; exact now1
    rw [nw, c2, zc_e]
  · unfold zMsr
    have t13 : zgI z1 3 13 e = 0 := by rw [a4 3 13 (by omega), if_pos ⟨rfl, rfl⟩]
    rw [c7, c8, c9, c10, c10, c10, c10, c10, k6, k6, k3 5 (by omega), k3 9 (by omega), k3 11 (by omega), k3 12 (by omega), t13, r3, r4, zoC (by omega), zoC (by omega), zoC (by omega)]
    have z0 : zb1 (0 : Int32) = 0 := rfl
    rw [z0]
    cases last
    · have m1 : ¬ m = 0 := hmm.resolve_right (by decide)
      rw [if_neg (show ¬ false = true by decide)]
      generalize (if zgI z 6 9 e = 0 then 1 else 0) = q
      omega
    · have nW : ¬ nn = W + 1 := by have := (hlast rfl).1; omega
      rw [if_pos rfl, if_neg (show ¬ (1 : Int32) = 0 by decide), r6, decide_eq_false nW, if_pos (show zbi false = 0 by decide)]
      omega
theorem zmaxsub {a b : Nat} (ha : a < 1073741824) (hb : b < 1073741824) : (if (0 : Int32) < Int32.ofNat a - Int32.ofNat b then Int32.ofNat a - Int32.ofNat b else (0 : Int32)) = Int32.ofNat (a - b) := by
  by_cases c : b ≤ a
  · rw [zo_sub c, zmax0_of (by omega)]
  · rw [if_neg (by
      rw [Int32.lt_iff_toInt_lt, zo_dif ha hb]
      show ¬ (0 : Int) < _
      omega), show a - b = 0 from by omega]
    rfl
theorem zpossub {a b : Nat} (ha : a < 1073741824) (hb : b < 1073741824) : ((0 : Int32) < Int32.ofNat a - Int32.ofNat b) ↔ b < a := by
  rw [Int32.lt_iff_toInt_lt, zo_dif ha hb]
  show (0 : Int) < _ ↔ _
  omega
theorem zp_makeNew {z w : St} {T : Tp} {E : Ev} {g : Sg} {K : Int32 → Int32 → Int32 → Prop} {X TS TA : List Nat} {e b n N : Nat} (hn : n ≤ 400000) (hT : zgI w 19 24 0 = Int32.ofNat n) (h16 : zgR z 3 16 e = some e) (h17r : zgR z 3 17 e = some e) (h18 : zgR z 3 18 e = some e) (hM : zMB w T E g K X TS TA) (hX : X.length ≤ 40) (hW : ∀ q, tv T q → (gW g q).length ≤ 16) (hTS : TS.length ≤ 100) (hl : TS.length + TA.length ≤ 4000) (h : zEe z w e) (hst : zgI z 3 0 e = 4 ∨ zgI z 3 0 e = 5 ∨ zgI z 3 0 e = 7 ∨ zgI z 3 0 e = 8 ∨ zgI z 3 0 e = 9) (h11 : zgI z 3 11 e = 0) (hN : 1500 < N) :
    (fX3_makeNew N e 0 (Int32.ofNat n) z = some (0, z) ∧ fX19_sendNew N 0 e w = some (-1, w)) ∨ ∃ z' w' s, fX3_makeNew N e 0 (Int32.ofNat n) z = some (1, z') ∧ fX19_sendNew N 0 e w = some (Int32.ofNat s, w') ∧ zMade z w z' w' T E g K X TS TA e b s ∧ zMsr z' e < zMsr z e := by
  obtain ⟨⟨f4, f5, f6, f8, f81, f11, -⟩, o, nn, W, st, B, L, S, hO, ⟨q1, q2, q3, q4, q5, q6, q7, q8, q9⟩, ⟨r1, r2, r3, r4, r5, r6, r7⟩, ar⟩ := zRo_iff.mp h.2.1
  obtain ⟨⟨p, p1, p2, p3⟩, -, v, v1, v2⟩ := zRz_n h.2.2.2.2
  obtain ⟨B1, BL, SL, -, Bo, -, BS, -, SW⟩ := zOb_f hO q4
  have hq := h.2.2.2.2.2.2.2.2
  have nst : ¬ (zgI z 3 0 e = 0 ∨ zgI z 3 0 e = 1 ∨ zgI z 3 0 e = 2 ∨ zgI z 3 0 e = 3 ∨ zgI z 3 0 e = 10 ∨ zgI z 3 0 e = 11) := by
    intro y
    rcases hst with c | c | c | c | c <;> (rw [c] at y; exact absurd y (by decide))
  have f7 : ¬ zgI z 6 7 e = 0 := hq.2.2.2.2.2.1 nst
  have o1 : 1 ≤ o := by
    refine Nat.pos_of_ne_zero (fun y => f7 ?_)
    rw [r5, y]; rfl
  have mst : zgI w 14 0 e = zgI z 3 0 e := h.1.1.1.symm
  have sN : stN (zgI z 3 0 e) = true := decide_eq_true hst
  have hb : ¬ zgI z 6 6 e = zgI z 6 4 e := by rw [q2]; exact zo_nF (by omega) (by omega)
  obtain ⟨hv, hv1, -, hv3⟩ := zp_hasNew (N := N) h.2.1 hb
  rw [mst, sN, Bool.true_and] at hv3
  -- whether there is something new
  have hvE : hv = (decide (S < L) || (decide (zgI z 6 8 e = 1) && decide (¬ nn = W + 1))) := by
    have t : fX6_hasNew N e z = some (zbi (decide (S < L) || (decide (zgI z 6 8 e = 1) && decide (¬ nn = W + 1))), z) := by
      unfold fX6_hasNew fX6_hasNew_25
      rw [r4, r3, r6]
      by_cases c : S < L
      · rw [if_pos (by rw [zo_lt (by omega) (by omega)]; exact c), decide_eq_true c]; rfl
      · rw [if_neg (by rw [zo_lt (by omega) (by omega)]; exact c), decide_eq_false c]
        rcases f81 with d | d
        · rw [if_pos d, d]; rfl
        · rw [if_neg (by rw [d]; decide), d]
          by_cases f : nn = W + 1
          · rw [decide_eq_true f, if_pos (show ¬ zbi true = 0 by decide), decide_eq_false (show ¬ ¬ nn = W + 1 from fun y => y f)]; rfl
          · rw [decide_eq_false f, if_neg (show ¬ ¬ zbi false = 0 by decide), decide_eq_true f]; rfl
    rw [hv1] at t
    have := congrArg (fun x : Option (Int32 × St) => x.map Prod.fst) t
    exact (zbi_e _ _).mp (Option.some.inj this)
  -- the class's head
  obtain ⟨al, hal⟩ : ∃ al, al = v - (nn - o) := ⟨_, rfl⟩
  have e7 : (if (0 : Int32) < ((zgI z 6 11 e) - ((zgI z 6 6 e) - (zgI z 6 5 e))) then ((zgI z 6 11 e) - ((zgI z 6 6 e) - (zgI z 6 5 e))) else (0 : Int32)) = Int32.ofNat al := by
    rw [v2, q1, q2, zi_dif, zo_sub q6, zmaxsub (by omega) (by omega), hal]
  obtain ⟨m, hm⟩ : ∃ m, m = min (min al p) (L - S) := ⟨_, rfl⟩
  have e12 : (if (if Int32.ofNat al < (zgI z 3 2 e) then Int32.ofNat al else (zgI z 3 2 e)) < ((zgI z 6 2 e) - (zgI z 6 3 e)) then (if Int32.ofNat al < (zgI z 3 2 e) then Int32.ofNat al else (zgI z 3 2 e)) else ((zgI z 6 2 e) - (zgI z 6 3 e))) = Int32.ofNat m := by
    rw [p3, r3, r4, zo_sub SL, zmin_of (by omega) (by omega)]
    have x1 : (if al < p then al else p) = min al p := by split <;> omega
    rw [x1, zmin_of (by omega) (by omega), hm]
    congr 1
    split <;> omega
  have mb : m ≤ 1460 ∧ m ≤ al ∧ m ≤ L - S ∧ m ≤ p := by omega
  -- both, when something is made or nothing
  obtain ⟨lb, hlb⟩ : ∃ lb : Bool, lb = (decide (zgI z 6 8 e = 1) && decide (¬ nn = W + 1) && decide (S + m = L) && decide (¬ al ≤ m)) := ⟨_, rfl⟩
  have crun : fX3_makeNew N e 0 (Int32.ofNat n) z = fX3_makeNew_107 N e 0 (Int32.ofNat n) (Int32.ofNat m) (zbi lb) z := by
    unfold fX3_makeNew fX3_makeNew_106
    rw [h16]
    rw [zl_e, zd_e, zl_e, zd_e, zl_e, zd_e, e7, zl_e, zl_e, zd_e, zl_e, zd_e, e12, zl_e, zl_e, zd_e]
    rcases f81 with d | d
    · rw [if_pos d, hlb, d]; rfl
    · rw [if_neg (by rw [d]; decide), zl_e, zd_e, r6]
      by_cases f : nn = W + 1
      · rw [decide_eq_true f, if_pos (show ¬ zbi true = 0 by decide), hlb, d, decide_eq_false (show ¬ ¬ nn = W + 1 from fun y => y f)]; rfl
      · rw [decide_eq_false f, if_neg (show ¬ ¬ zbi false = 0 by decide), zl_e, zd_e, zl_e, zd_e, r4, r3, zo_add]
        by_cases c : S + m = L
        · rw [if_neg (fun y => y (by rw [c])), hlb, d, decide_eq_true f, decide_eq_true c]
          by_cases c2 : al ≤ m
          · rw [if_pos (by rw [zo_le (by omega) (by omega)]; exact c2), decide_eq_false (show ¬ ¬ al ≤ m from fun y => y c2)]; rfl
          · rw [if_neg (by rw [zo_le (by omega) (by omega)]; exact c2), decide_eq_true c2]; rfl
        · rw [if_pos (fun y => c ((zo_eq (by omega) (by omega)).mp y)), hlb, decide_eq_false c]
          simp [zbi]
  -- the model
  have mv1 : (((zgI w 14 6 e) + (zgI w 14 11 e)) - (zgI w 14 7 e)) = Int32.ofNat (o + v) - Int32.ofNat nn := by
    rw [← f5, ← f6, ← f11, q1, q2, v2, Int32.add_assoc, zo_add, zi_dif]
  have mleft : nn ≤ W → (zgI w 14 8 e) - (zgI w 14 7 e) = Int32.ofNat (W - nn) := fun y => by rw [q3, ← f6, q2, zi_dif, zo_sub y]
  have mpc : zgI w 14 15 e = Int32.ofNat p := h.1.1.2.2.1.symm.trans p3
  have none_ : fX19_sendNew N 0 e w = some (-1, w) → m = 0 → lb = false → (fX3_makeNew N e 0 (Int32.ofNat n) z = some (0, z) ∧ fX19_sendNew N 0 e w = some (-1, w)) := fun a c d => by
    refine ⟨?_, a⟩
    rw [crun, c, d]
    unfold fX3_makeNew_107
    rw [if_neg (show ¬ ¬ Int32.ofNat 0 = 0 from fun y => y rfl), if_neg (show ¬ ¬ zbi false = 0 by decide)]
  have ne1 : ∀ {α : Type} (x y : α), (if zbi false = 0 then x else y) = x := fun x y => if_pos (by decide)
  cases hvv : hv
  · -- nothing is new
    left
    have nw : ¬ S < L ∧ ¬ (zgI z 6 8 e = 1 ∧ ¬ nn = W + 1) := by
      rw [hvE, Bool.or_eq_false_iff, Bool.and_eq_false_iff, decide_eq_false_iff_not, decide_eq_false_iff_not, decide_eq_false_iff_not] at hvv
      refine ⟨hvv.1, fun y => ?_⟩
      rcases hvv.2 with t | t
      · exact t y.1
      · exact t y.2
    refine none_ ?_ (by omega) ?_
    · unfold fX19_sendNew
      rw [zl_e, hv3, hvv, zc_e, ne1]
    · rw [hlb]
      by_cases c : zgI z 6 8 e = 1
      · have : nn = W + 1 := Decidable.byContradiction (fun y => nw.2 ⟨c, y⟩)
        rw [decide_eq_false (show ¬ ¬ nn = W + 1 from fun y => y this)]; simp
      · rw [decide_eq_false c]; rfl
  · have nw : S < L ∨ (zgI z 6 8 e = 1 ∧ ¬ nn = W + 1) := by
      rw [hvE, Bool.or_eq_true, Bool.and_eq_true, decide_eq_true_iff, decide_eq_true_iff, decide_eq_true_iff] at hvv
      exact hvv
    have nW : nn ≤ W := by
      rcases nw with t | t
      · refine Nat.not_lt.mp (fun y => ?_)
        have := SW (by omega)
        omega
      · omega
    have BS : B + S = nn := BS (by rw [Bo o1 (by omega)]; exact q6) nW
    have LS : L - S = W - nn := by omega
    have mhead : fX19_sendNew N 0 e w = (if nn < o + v then (if Int32.ofNat p ≤ Int32.ofNat (W - nn) then (fX19_sendNew_54 N 0 e (Int32.ofNat al) (Int32.ofNat (W - nn)) (Int32.ofNat p) w) else (fX19_sendNew_54 N 0 e (Int32.ofNat al) (Int32.ofNat (W - nn)) (Int32.ofNat (W - nn)) w)) else some (-1, w)) := by
      unfold fX19_sendNew
      rw [mv1, zl_e, hv3, hvv, zc_e, if_neg (show ¬ zbi true = 0 by decide), mleft nW, mpc]
      by_cases c : nn < o + v
      · rw [if_pos ((zpossub (by omega) (by omega)).mpr c), if_pos c, zl_e, zo_sub (by omega), show o + v - nn = al from by omega]
      · rw [if_neg (fun y => c ((zpossub (by omega) (by omega)).mp y)), if_neg c]
    by_cases ca : nn < o + v
    · rw [if_pos ca] at mhead
      have m2 : fX19_sendNew N 0 e w = fX19_sendNew_68 N 0 e (Int32.ofNat al) (Int32.ofNat (W - nn)) (Int32.ofNat m) w := by
        rw [mhead]
        unfold fX19_sendNew_54
        by_cases c : p ≤ W - nn
        · rw [if_pos (by rw [zo_le (by omega) (by omega)]; exact c)]
          by_cases d : al ≤ p
          · rw [if_pos (by rw [zo_le (by omega) (by omega)]; exact d), show m = al from by omega]
          · rw [if_neg (by rw [zo_le (by omega) (by omega)]; exact d), show m = p from by omega]
        · rw [if_neg (by rw [zo_le (by omega) (by omega)]; exact c)]
          by_cases d : al ≤ W - nn
          · rw [if_pos (by rw [zo_le (by omega) (by omega)]; exact d), show m = al from by omega]
          · rw [if_neg (by rw [zo_le (by omega) (by omega)]; exact d), show m = W - nn from by omega]
      have n1 : decide (¬ nn = W + 1) = true := decide_eq_true (by omega)
      have m3 : fX19_sendNew N 0 e w = fX19_sendNew_94 N 0 e (Int32.ofNat m) (zbi lb) w := by
        rw [m2]
        unfold fX19_sendNew_68 fX19_sendNew_93
        rw [← f8]
        rcases f81 with d | d
        · rw [if_pos d, hlb, d]; rfl
        · rw [if_neg (by rw [d]; decide)]
          by_cases c : m = W - nn
          · rw [if_neg (fun y => y (by rw [c])), hlb, d, n1, decide_eq_true (show S + m = L by omega)]
            by_cases c2 : al ≤ m
            · rw [if_pos (by rw [zo_le (by omega) (by omega)]; exact c2), decide_eq_false (show ¬ ¬ al ≤ m from fun y => y c2)]; rfl
            · rw [if_neg (by rw [zo_le (by omega) (by omega)]; exact c2), decide_eq_true c2]; rfl
          · rw [if_pos (fun y => c ((zo_eq (by omega) (by omega)).mp y)), hlb, decide_eq_false (show ¬ S + m = L by omega)]
            simp [zbi]
      have go : (¬ m = 0 ∨ lb = true) → ∃ z' w' s, fX3_makeNew N e 0 (Int32.ofNat n) z = some (1, z') ∧ fX19_sendNew N 0 e w = some (Int32.ofNat s, w') ∧ zMade z w z' w' T E g K X TS TA e b s ∧ zMsr z' e < zMsr z e := by
        intro hh
        have hlast : lb = true → nn + m = W ∧ zgI z 6 8 e = 1 := fun y => by
          rw [hlb, Bool.and_eq_true, Bool.and_eq_true, Bool.and_eq_true, decide_eq_true_iff, decide_eq_true_iff, decide_eq_true_iff, decide_eq_true_iff] at y
          exact ⟨by have := y.1.2; omega, y.1.1.1⟩
        obtain ⟨z', w', s, g1, g2', g3, g5⟩ := zp_goAhead (b := b) (N := N) lb hn hT h16 h17r h18 hM hX hW hTS hl h hst h11 hN hO q1 q2 q3 q4 q5 q6 q9 r1 r2 r4 ar mb.1 (by omega) hlast r3 r6 hh
        refine ⟨z', w', s, ?_, ?_, g3, g5⟩
        · rw [crun]
          unfold fX3_makeNew_107 fX3_makeNew_121
          by_cases c : m = 0
          · have l1 := hh.resolve_left (fun y => y c)
            rw [if_neg (show ¬ ¬ Int32.ofNat m = 0 from fun y => y (by rw [c]; rfl)), if_pos (show ¬ zbi lb = 0 from by rw [l1]; decide), g1, zc_e]
          · rw [if_pos (show ¬ Int32.ofNat m = 0 from fun y => c ((zo_eq (b := 0) (by omega) (by omega)).mp y)), g1, zc_e]
        · rw [m3]
          have m108 : fX19_sendNew_94 N 0 e (Int32.ofNat m) (zbi lb) w = fX19_sendNew_108 N 0 e (Int32.ofNat m) (zbi lb) w := by
            unfold fX19_sendNew_94
            by_cases c : m = 0
            · have l1 := hh.resolve_left (fun y => y c)
              rw [if_neg (show ¬ ¬ Int32.ofNat m = 0 from fun y => y (by rw [c]; rfl)), if_pos (show ¬ zbi lb = 0 from by rw [l1]; decide)]
            · rw [if_pos (show ¬ Int32.ofNat m = 0 from fun y => c ((zo_eq (b := 0) (by omega) (by omega)).mp y))]
          rw [m108]
          unfold fX19_sendNew_108 fX19_sendNew_120 fX19_sendNew_148
          cases lb
          · rw [if_pos (show zbi false = 0 by decide)]
            refine Eq.trans ?_ g2'
            congr 1
            funext r1 z2
            rw [if_pos (show zbi false = 0 by decide), show Int32.ofNat m + (0 : Int32) = Int32.ofNat (m + 0) from zo_add m 0]
            rfl
          · rw [if_neg (show ¬ zbi true = 0 by decide)]
            refine Eq.trans ?_ g2'
            congr 1
            funext r1 z2
            rw [if_neg (show ¬ zbi true = 0 by decide), show Int32.ofNat m + (1 : Int32) = Int32.ofNat (m + 1) from zo_add m 1]
            rfl
      by_cases c : m = 0
      · cases hl2 : lb
        · left
          refine none_ ?_ c hl2
          rw [m3, c, hl2]
          unfold fX19_sendNew_94
          rw [if_neg (show ¬ ¬ Int32.ofNat 0 = 0 from fun y => y rfl), if_neg (show ¬ ¬ zbi false = 0 by decide)]
        · exact Or.inr (go (Or.inr hl2))
      · exact Or.inr (go (Or.inl c))
    · rw [if_neg ca] at mhead
      have al0 : al = 0 := by omega
      left
      refine none_ mhead (by omega) ?_
      rw [hlb, decide_eq_false (show ¬ ¬ al ≤ m by omega)]; simp
