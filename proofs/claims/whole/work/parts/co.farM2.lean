/-! ways, the model: the way to a net that is far, whole -/
theorem zm_fr0 {w : St} {x nN i N : Nat} (hx : x < 2400) (h2 : mad w x 2 = Int32.ofNat nN) (hi : 3 * (nN + i) < 72) : fX19_friendRow N 0 (Int32.ofNat x) (Int32.ofNat i) (0 : Int32) w = some (mad w x (4 + 3 * (nN + i)), w) := zm_friendRow (c := 0) hx h2 hi
theorem zm_fr1 {w : St} {x nN i N : Nat} (hx : x < 2400) (h2 : mad w x 2 = Int32.ofNat nN) (hi : 3 * (nN + i) + 1 < 72) : fX19_friendRow N 0 (Int32.ofNat x) (Int32.ofNat i) (1 : Int32) w = some (mad w x (4 + 3 * (nN + i) + 1), w) := zm_friendRow (c := 1) hx h2 hi
theorem zm_fr2 {w : St} {x nN i N : Nat} (hx : x < 2400) (h2 : mad w x 2 = Int32.ofNat nN) (hi : 3 * (nN + i) + 2 < 72) : fX19_friendRow N 0 (Int32.ofNat x) (Int32.ofNat i) (2 : Int32) w = some (mad w x (4 + 3 * (nN + i) + 2), w) := zm_friendRow (c := 2) hx h2 hi
theorem mHit_iff {D : Nat → Nat → Nat} {q : Nat → Nat} {S best : Nat} {e : En} : mHit D q S best e = true ↔ ∃ x, x < 16 ∧ x ≠ S ∧ q x ≠ 0 ∧ e.2.2 + D (e.1 - 1) x + q x = best := by
  unfold mHit
  rw [List.any_eq_true]
  constructor
  · rintro ⟨x, h1, h2⟩
    exact ⟨x, List.mem_range.mp h1, of_decide_eq_true h2⟩
  · rintro ⟨x, h1, h2⟩
    exact ⟨x, List.mem_range.mpr h1, decide_eq_true h2⟩
def mFst (Ba : Nat → Option Ad) (D : Nat → Nat → Nat) (q : Nat → Nat) (S best : Nat) (L : List En) : Wy := match L.find? (mPh Ba D q S best) with | some e => some (best, e.1 - 1, e.2.1) | none => none
theorem zm_farRows {w : St} {b n best adv num N : Nat} {Ba : Nat → Option Ad} {D : Nat → Nat → Nat} {q : Nat → Nat} (hB : zRmB w b Ba) (hBn : zBn Ba) (h0 : zgI w 12 0 b = Int32.ofNat b) (hb : b < 16) (hn : n < 24) (hbe : best ≤ FARn) (ha : adv < 2400) (hA : zAdw w adv b num (bE Ba b)) (hD : zY9 w D) (hDb : ∀ x y, x < 16 → y < 16 → D x y ≤ FARn) (hq : ∀ t, q t = pTl (bE Ba t) n) (h155 : zYx w b n none) (hN : 25 < N) :
    ∃ w', fX19_farWay_121 N N 0 b (Int32.ofNat n) (Int32.ofNat best) (Int32.ofNat adv) (Int32.ofNat 0) w = some (0, w') ∧ zYx w' b n (mFst Ba D q b best (bE Ba b)) ∧ zYp b n w w' := by
  have F9 : FARn = 1000000000 := rfl
  have hL := hBn b
  obtain ⟨-, nN, ⟨n1, n2⟩, m2, m3, mr, -⟩ := hA
  have h5 : zgA w 155 b n = -1 := h155.1
  have done : ∀ (nn i : Nat) (v : St), 0 < nn → i ≤ 24 → mad v adv 3 = Int32.ofNat ((bE Ba b).length - nN) → zgA v 155 b n ≠ -1 → fX19_farWay_121 N nn 0 b (Int32.ofNat n) (Int32.ofNat best) (Int32.ofNat adv) (Int32.ofNat i) v = some (0, v) := fun nn i v hnn hi hm h => by
    obtain ⟨nn, rfl⟩ : ∃ k, nn = k + 1 := ⟨nn - 1, by omega⟩
    show fX19_farWay_121b N (fX19_farWay_121 N nn) 0 b (Int32.ofNat n) (Int32.ofNat best) (Int32.ofNat adv) (Int32.ofNat i) v = _
    unfold fX19_farWay_121b
    rw [show (3 : Int32) = Int32.ofNat 3 from rfl, zm_ad ha (by omega), zc_e, hm]
    by_cases k : Int32.ofNat ((bE Ba b).length - nN) ≤ Int32.ofNat i
    · rw [if_pos k]
    · rw [if_neg k, zkk hn (by omega), zoC (by omega), if_pos h]
  have loop : ∀ (C A : List En) (i nn : Nat), A ++ C = bE Ba b → A.length = nN + i → C.length + 1 < nn → ∃ w', fX19_farWay_121 N nn 0 b (Int32.ofNat n) (Int32.ofNat best) (Int32.ofNat adv) (Int32.ofNat i) w = some (0, w') ∧ zYx w' b n (mFst Ba D q b best C) ∧ zYp b n w w' := by
    intro C
    induction C with
    | nil =>
      intro A i nn e hA hn'
      obtain ⟨nn, rfl⟩ : ∃ k, nn = k + 1 := ⟨nn - 1, by omega⟩
      rw [List.append_nil] at e
      rw [e] at hA
      refine ⟨w, ?_, h155, zYp_rf _ _ _⟩
      show fX19_farWay_121b N (fX19_farWay_121 N nn) 0 b (Int32.ofNat n) (Int32.ofNat best) (Int32.ofNat adv) (Int32.ofNat i) w = _
      unfold fX19_farWay_121b
      rw [show (3 : Int32) = Int32.ofNat 3 from rfl, zm_ad ha (by omega), zc_e, m3, if_pos (by rw [zo_le (by omega) (by omega)]; omega)]
    | cons a C ih =>
      intro A i nn e hA hn'
      obtain ⟨nn, rfl⟩ : ∃ k, nn = k + 1 := ⟨nn - 1, by omega⟩
      have hlen : A.length < (bE Ba b).length := by rw [← e, List.length_append, List.length_cons]; omega
      have hget : (bE Ba b)[nN + i]? = some a := by rw [← hA, ← e, List.getElem?_append_right (Nat.le_refl _), Nat.sub_self]; rfl
      have am := List.mem_of_getElem? hget
      obtain ⟨a1, a2, a3, a4⟩ := hL.2 a am
      obtain ⟨d1, d2, d3, d4⟩ := mr _ _ hget
      have a0 : a.1 ≠ 0 := fun q => by have := d4.mp q; omega
      obtain ⟨f, hf⟩ : ∃ f, a.1 = f + 1 := ⟨a.1 - 1, by omega⟩
      have f16 : f < 16 := by omega
      rw [hf, zo_s1 (Nat.succ_pos f), show f.succ - 1 = f from rfl] at d1
      have go := ih (A ++ [a]) (i + 1) nn (by rw [List.append_assoc]; exact e) (by rw [List.length_append, show [a].length = 1 from rfl]; omega) (by simp at hn'; omega)
      have no : mPh Ba D q b best a = false → mFst Ba D q b best (a :: C) = mFst Ba D q b best C := fun y => by unfold mFst; rw [List.find?_cons, y]
      have skip : mPh Ba D q b best a = false → ∃ w', fX19_farWay_201 N (fX19_farWay_121 N nn) 0 b (Int32.ofNat n) (Int32.ofNat best) (Int32.ofNat adv) (Int32.ofNat i) (Int32.ofNat f) (Int32.ofNat a.2.1) w = some (0, w') ∧ zYx w' b n (mFst Ba D q b best (a :: C)) ∧ zYp b n w w' := fun y => by
        obtain ⟨M, hM⟩ : ∃ k, N = k + 1 := ⟨N - 1, by omega⟩
        have e1 : fX19_farWay_201 N (fX19_farWay_121 N nn) 0 b (Int32.ofNat n) (Int32.ofNat best) (Int32.ofNat adv) (Int32.ofNat i) (Int32.ofNat f) (Int32.ofNat a.2.1) w = fX19_farWay_121 N nn 0 b (Int32.ofNat n) (Int32.ofNat best) (Int32.ofNat adv) (Int32.ofNat (i + 1)) w := by
          unfold fX19_farWay_201 fX19_farWay_202
          have : fX19_farWay_207 N (fX19_farWay_121 N nn) N = fX19_farWay_207 N (fX19_farWay_121 N nn) (M + 1) := by rw [← hM]
          rw [this]
          show fX19_farWay_207b N (fX19_farWay_121 N nn) (fX19_farWay_207 N (fX19_farWay_121 N nn) M) 0 b (Int32.ofNat n) (Int32.ofNat best) (Int32.ofNat adv) (Int32.ofNat i) (Int32.ofNat f) (Int32.ofNat a.2.1) (0 : Int32) (0 : Int32) w = _
          unfold fX19_farWay_207b fX19_farWay_317
          rw [if_pos rfl, zo_i1, zl_e]
        rw [e1, no y]; exact go
      show ∃ w', fX19_farWay_121b N (fX19_farWay_121 N nn) 0 b (Int32.ofNat n) (Int32.ofNat best) (Int32.ofNat adv) (Int32.ofNat i) w = some (0, w') ∧ _
      unfold fX19_farWay_121b
      rw [show (3 : Int32) = Int32.ofNat 3 from rfl, zm_ad ha (by omega), zc_e, m3, if_neg (by rw [zo_le (by omega) (by omega)]; omega), zkk hn (by omega), zoC (by omega), h5, if_neg (fun y => y rfl), zm_fr0 ha m2 (by omega), zc_e, d1, zm_fr1 ha m2 (by omega), zc_e, d2, zkk f16 (by omega), zoC (by omega)]
      have eP : mPh Ba D q b best a = (tellB Ba f b a.2.1 && mHit D q b best a) := by
        unfold mPh
        rw [decide_eq_true a0, Bool.true_and, hf, Nat.add_sub_cancel]
      have Bf := hB f f16
      cases qf : Ba f with
      | none =>
        rw [qf] at Bf
        rw [if_pos (show zgA w 150 b f = -1 from Bf)]
        exact skip (by rw [eP, show tellB Ba f b a.2.1 = false from by unfold tellB bE; rw [qf]; rfl, Bool.false_and])
      | some af =>
        rw [qf] at Bf
        obtain ⟨yf, yf1, yf2, -, yf3⟩ := Bf
        have eb : bE Ba f = af.2.2 := by unfold bE; rw [qf]
        have hLf := hBn f
        rw [eb] at hLf
        have et : tellB Ba f b a.2.1 = af.2.2.any (fun e => e.1 == b + 1 && e.2.1 == a.2.1) := by unfold tellB; rw [eb]
        have ct := cTo_any hLf b a.2.1
        rw [yf2, if_neg (zo_ne1 (by omega)), zkk f16 (by omega), h0, zm_costTo yf1 yf3 hLf hb a2 (by omega), zc_e]
        by_cases k1 : tellB Ba f b a.2.1 = true
        · rw [if_neg (fun y => by rw [ct, ← et, k1] at y; cases y)]
          obtain ⟨r1, r2⟩ := zm_farRow (N := N) (nN := nN) (i := i) (adv := adv) (K121 := fX19_farWay_121 N nn) (best := best) (r := f) (net := a.2.1) (c := a.2.2) hB hBn h0 hb hn f16 a4 hbe ha m2 (show 3 * (nN + i) + 2 < 72 by omega) d3 hD hDb hq h5 (by omega)
          by_cases k2 : mHit D q b best a = true
          · have hit := mHit_iff.mp k2
            rw [hf, Nat.add_sub_cancel] at hit
            refine ⟨_, (r2 hit).trans (done nn (i + 1) _ (by omega) (by omega) ?_ ?_), ?_, wST_p _ _ _ _ _ _⟩
            · exact ((wST_p w b n _ _ _).2.1 178 0 _ (by omega)).trans m3
            · rw [(wST_g w b n _ _ _).1]; exact zo_ne1 (by omega)
            · unfold mFst
              rw [List.find?_cons, eP, k1, k2]
              show zYx _ b n (some (best, a.1 - 1, a.2.1))
              rw [hf, Nat.add_sub_cancel]
              exact wST_g w b n _ _ _
          · have nh : ∀ x, x < 16 → ¬ (x ≠ b ∧ q x ≠ 0 ∧ a.2.2 + D f x + q x = best) := fun x hx y => k2 (mHit_iff.mpr ⟨x, hx, y.1, y.2.1, by rw [hf, Nat.add_sub_cancel]; exact y.2.2⟩)
            rw [r1 nh, no (by rw [eP, k1, Bool.true_and]; simpa using k2)]
            exact go
        · have k1 : tellB Ba f b a.2.1 = false := by simpa using k1
          rw [if_pos (ct.mpr (et ▸ k1))]
          exact skip (by rw [eP, k1, Bool.false_and])
  obtain ⟨w', g1, g2, g3⟩ := loop ((bE Ba b).drop nN) ((bE Ba b).take nN) 0 N (List.take_append_drop _ _) (by rw [List.length_take]; omega) (by rw [List.length_drop]; have := hL.1; omega)
  refine ⟨w', g1, ?_, g3⟩
  have : mFst Ba D q b best ((bE Ba b).drop nN) = mFst Ba D q b best (bE Ba b) := by
    unfold mFst
    rw [find_drop (fun i e hi he => by
      have := (mr i e he).2.2.2.mpr hi
      unfold mPh
      rw [decide_eq_false (by rw [this]; exact fun y => y rfl), Bool.false_and])]
  rw [← this]; exact g2
theorem zm_farWay {w : St} {b n N : Nat} {Ba : Nat → Option Ad} {D : Nat → Nat → Nat} {q : Nat → Nat} (hB : zRmB w b Ba) (hBn : zBn Ba) (h0 : zgI w 12 0 b = Int32.ofNat b) (hb : b < 16) (hn : n < 24) (hD : zY9 w D) (hF : zFW Ba 16 D) (hq : ∀ t, q t = pTl (bE Ba t) n) (h155 : zYx w b n none) (hN : 25 < N) :
    ∃ w', fX19_farWay N 0 b (Int32.ofNat n) w = some (0, w') ∧ zYx w' b n (wMod Ba D q b) ∧ zYp b n w w' := by
  have F9 : FARn = 1000000000 := rfl
  have hDb := hF.2.1
  have hq1 : ∀ t, q t ≤ 1000 := fun t => by rw [hq]; exact pTl_le (hBn t) n
  have loop : ∀ (m k nn : Nat), k + m = 16 → m < nn → ∃ w', fX19_farWay_7 N nn 0 b (Int32.ofNat n) (Int32.ofNat (mFar (D b) q k)) (Int32.ofNat k) w = some (0, w') ∧ zYx w' b n (wMod Ba D q b) ∧ zYp b n w w' := by
    intro m
    induction m with
    | zero =>
      intro k nn hi hm
      obtain ⟨nn, rfl⟩ : ∃ k, nn = k + 1 := ⟨nn - 1, by omega⟩
      have hi : k = 16 := by omega
      subst hi
      obtain ⟨p1, p2⟩ := mFar_1 (d := D b) (q := q) 16
      have no := mFar_no (d := D b) (q := q) (k := 16)
      show ∃ w', fX19_farWay_7b N (fX19_farWay_7 N nn) 0 b (Int32.ofNat n) (Int32.ofNat (mFar (D b) q 16)) (Int32.ofNat 16) w = some (0, w') ∧ _
      unfold fX19_farWay_7b wMod
      rw [if_pos (by decide)]
      by_cases c1 : mFar (D b) q 16 = FARn
      · rw [if_pos (by rw [c1]; rfl), if_pos c1]
        exact ⟨w, rfl, h155, zYp_rf _ _ _⟩
      · rw [if_neg (show ¬ Int32.ofNat (mFar (D b) q 16) = (1000000000 : Int32) from fun y => c1 ((zo_eq (b := 1000000000) (by omega) (by omega)).mp y)), if_neg c1, h0, zkk hb (by omega), zoC (by omega), zm_costOn hB hBn hb hn (by omega), zc_e, ← hq]
        by_cases c2 : q b = mFar (D b) q 16
        · rw [if_neg (fun y => y (by unfold cqI; rw [if_neg (by omega), c2])), if_pos c2]
          exact ⟨w, rfl, h155, zYp_rf _ _ _⟩
        · have c3 : ¬ cqI (q b) = Int32.ofNat (mFar (D b) q 16) := fun y => by
            unfold cqI at y
            by_cases c : q b = 0
            · rw [if_pos c] at y; exact zo_ne1 (by omega) y.symm
            · rw [if_neg c] at y; have := hq1 b; exact c2 ((zo_eq (by omega) (by omega)).mp y)
          rw [if_pos c3, if_neg c2, h0, zkk hb (by omega), zoC (by omega), zl_e]
          have Bb := hB b hb
          cases qb : Ba b with
          | none =>
            exfalso
            refine c1 (no (fun t ht => ?_))
            by_cases e : t = b
            · left; rw [e, hq]; unfold bE pTl; rw [qb]; rfl
            · right
              refine Nat.le_of_not_lt (fun y => ?_)
              obtain ⟨r, n', c, -, h1, -⟩ := hF.2.2.2.2 b t hb ht (fun y => e y.symm) y
              have := h1.1
              unfold bE at this
              rw [qb] at this; cases this
          | some a =>
            rw [qb] at Bb
            obtain ⟨y, y1, y2, -, y3⟩ := Bb
            have eb : bE Ba b = a.2.2 := by unfold bE; rw [qb]
            rw [y2]
            have := zm_farRows (best := mFar (D b) q 16) (adv := y) (num := a.1) (N := N) hB hBn h0 hb hn p2 y1 (by rw [eb]; exact y3) hD hDb hq h155 (by omega)
            exact this
    | succ m ih =>
      intro k nn hi hm
      obtain ⟨nn, rfl⟩ : ∃ k, nn = k + 1 := ⟨nn - 1, by omega⟩
      have k16 : k < 16 := by omega
      have go := ih (k + 1) nn (by omega) (by omega)
      obtain ⟨p1, p2⟩ := mFar_1 (d := D b) (q := q) k
      have qk := hq1 k
      have dk := hDb b k hb k16
      have g75 : ∀ x3 : Int32, x3 = Int32.ofNat (mFar (D b) q (k + 1)) → ∃ w', fX19_farWay_75 N (fX19_farWay_7 N nn) 0 b (Int32.ofNat n) x3 (Int32.ofNat k) w = some (0, w') ∧ zYx w' b n (wMod Ba D q b) ∧ zYp b n w w' := fun x3 e => by
        unfold fX19_farWay_75
        rw [zo_i1, zl_e, e]; exact go
      have em : mFar (D b) q (k + 1) = if q k = 0 ∨ mFar (D b) q k ≤ D b k + q k then mFar (D b) q k else D b k + q k := rfl
      show ∃ w', fX19_farWay_7b N (fX19_farWay_7 N nn) 0 b (Int32.ofNat n) (Int32.ofNat (mFar (D b) q k)) (Int32.ofNat k) w = some (0, w') ∧ _
      unfold fX19_farWay_7b
      rw [if_neg (by rw [show (16 : Int32) = Int32.ofNat 16 from rfl, zo_le (by omega) (by omega)]; omega), zkk k16 (by omega), zoC (by omega), zm_costOn hB hBn k16 hn (by omega), zc_e, ← hq]
      by_cases c1 : q k = 0
      · rw [if_pos ((cqI_n1 qk).mpr c1)]
        exact g75 _ (by rw [em, if_pos (Or.inl c1)])
      · have cq : cqI (q k) = Int32.ofNat (q k) := if_neg c1
        rw [if_neg (fun y => c1 ((cqI_n1 qk).mp y)), h0, zI16, zkk (by omega) (by omega), zoC (by omega), hD b k hb k16, cq, zo_add]
        by_cases c2 : mFar (D b) q k ≤ D b k + q k
        · rw [if_pos ((zo_le (by omega) (by omega)).mpr c2)]
          exact g75 _ (by rw [em, if_pos (Or.inr c2)])
        · rw [if_neg (fun y => c2 ((zo_le (by omega) (by omega)).mp y)), zkk (by omega) (by omega), zl_e]
          exact g75 _ (by rw [em, if_neg (fun y => y.elim c1 c2)])
  unfold fX19_farWay
  exact loop 16 0 N rfl (by omega)
