/-! count(): nets' and boxes' counts -/
def zRtal (z : St) (b : Nat) : Prop := zgA z 113 b 2 = zgI z 12 4 b ∧ zgA z 113 b 3 = zgI z 12 5 b ∧ zgA z 113 b 4 = zgI z 12 6 b ∧ zgA z 113 b 5 = zgI z 12 7 b ∧ zgA z 113 b 6 = zgI z 12 8 b ∧ zgA z 113 b 7 = zgI z 12 9 b
theorem zlt8 {x : Int32} (h0 : ¬ x < 0) (h1 : x ≤ 7) : ∃ i, i < 8 ∧ x = Int32.ofNat i := by
  refine zlt_of (a := 8) (by omega) h0 ?_
  intro c
  have c := Int32.le_iff_toInt_le.mp c
  have h1 := Int32.le_iff_toInt_le.mp h1
  have a7 : (7 : Int32).toInt = 7 := rfl
  have a8 : (Int32.ofNat 8).toInt = 8 := rfl
  omega
theorem lg_cmp_self (x : Int64) : lg_cmp x x = 0 := by simp [lg_cmp]
theorem zw_20s {z : St} {N : Nat} {sc : Nat → Int32} {I : List (Nat × Nat)} {cc ss : Nat} (hr : (cc + rmL_count.cells) ≤ room_1.cells ∧ (ss + rmL_count.slots) ≤ room_1.slots) {v : Int32} (e1 : fX11_count N 0 (sc 1) (sc 2) z = some (.inl v, z)) (e2 : fX19_count N 0 (sc 1) (sc 2) (zsL z 193 0 0 v.toInt64) = some (v, zsI (zsL z 193 0 0 v.toInt64) 19 25 0 0)) : fLaw_20 N sc I cc ss z = some (zsI (zsL z 193 0 0 v.toInt64) 19 25 0 0, I, cc + rmL_count.cells, ss + rmL_count.slots) := by
  unfold fLaw_20
  rw [zqc_t hr]
  have e3 : fL_count N 0 (sc 1) (sc 2) 0 z = some ((0 : Int32), zsL z 193 0 0 v.toInt64) := by simp [fL_count, e1]
  rw [e3]
  simp only [zc]
  rw [e2]
  simp [fX19_thrown, zgI_sI, zgL_sI, zgL_sL, lg_cmp_self]
theorem zw_20t {z : St} {N : Nat} {sc : Nat → Int32} {I : List (Nat × Nat)} {cc ss : Nat} (hr : (cc + rmL_count.cells) ≤ room_1.cells ∧ (ss + rmL_count.slots) ≤ room_1.slots) {r : Int32} (e1 : fX11_count N 0 (sc 1) (sc 2) z = some (.inr 1, z)) (e2 : fX19_count N 0 (sc 1) (sc 2) z = some (r, zsI z 19 25 0 1)) : fLaw_20 N sc I cc ss z = some (zsI z 19 25 0 1, I, cc + rmL_count.cells, ss + rmL_count.slots) := by
  unfold fLaw_20
  rw [zqc_t hr]
  simp [fL_count, e1, e2, zc, fX19_thrown, zgI_sI]
theorem zRcnt_L {z : St} {v : Int64} {nb nn : Nat} (h : zRcnt z nb nn) : zRcnt (zsL z 193 0 0 v) nb nn := h
theorem zcase {a : Nat} (h : a ≤ 24) (x : Int32) : (x < 0 ∨ Int32.ofNat a ≤ x) ∨ ∃ i, i < a ∧ x = Int32.ofNat i := by
  by_cases c : x < 0
  · exact Or.inl (Or.inl c)
  by_cases c2 : Int32.ofNat a ≤ x
  · exact Or.inl (Or.inr c2)
  exact Or.inr (zlt_of h c c2)
theorem zw_box0 {z : St} {nb nn : Nat} (h : zRcnt z nb nn) (N : Nat) {x : Int32} (c : x < 0 ∨ Int32.ofNat nb ≤ x) : fX11_boxOf N 0 x z = some (none, z) ∧ fX19_isBox N 0 x z = some ((0 : Int32), z) := by
  obtain ⟨hb, hn, b1, b2, n1, n2, q1, q2, q3⟩ := h
  unfold fX11_boxOf fX19_isBox
  by_cases c1 : x < 0
  · rw [if_pos c1, if_pos c1]; exact ⟨rfl, rfl⟩
  rw [if_neg c1, if_neg c1, b1, b2, if_pos (c.resolve_left c1), if_pos (c.resolve_left c1)]
  exact ⟨rfl, rfl⟩
theorem zw_net0 {z : St} {nb nn : Nat} (h : zRcnt z nb nn) (N : Nat) {x : Int32} (c : x < 0 ∨ Int32.ofNat nn ≤ x) : fX11_netOf N 0 x z = some (none, z) ∧ fX19_isNet N 0 x z = some ((0 : Int32), z) := by
  obtain ⟨hb, hn, b1, b2, n1, n2, q1, q2, q3⟩ := h
  unfold fX11_netOf fX19_isNet
  by_cases c1 : x < 0
  · rw [if_pos c1, if_pos c1]; exact ⟨rfl, rfl⟩
  rw [if_neg c1, if_neg c1, n1, n2, if_pos (c.resolve_left c1), if_pos (c.resolve_left c1)]
  exact ⟨rfl, rfl⟩
theorem znlt {i : Nat} (h : i < 4000) : ¬ Int32.ofNat i < 0 := fun c => by
  have c := Int32.lt_iff_toInt_lt.mp c
  rw [Int32.toInt_ofNat_of_lt (by omega)] at c
  have a0 : (0 : Int32).toInt = 0 := rfl
  omega
theorem zw_box1 {z : St} {nb nn : Nat} (h : zRcnt z nb nn) (N : Nat) {i : Nat} (hi : i < nb) : fX11_boxOf N 0 (Int32.ofNat i) z = some (some i, z) ∧ fX19_isBox N 0 (Int32.ofNat i) z = some ((1 : Int32), z) := by
  rcases zw_boxOf h N (Int32.ofNat i) with ⟨g1, g2⟩ | ⟨j, hj, ej, g1, g2⟩
  · obtain ⟨hb, hn, b1, b2, n1, n2, q1, q2, q3⟩ := h
    unfold fX19_isBox at g2
    rw [if_neg (znlt (by omega)), b2, if_neg ((zof_lt (k := i) (N := nb) hi (by omega)).2.2.1)] at g2
    cases g2
  · have e : i = j := by
      have a := congrArg Int32.toNatClampNeg ej
      rw [Int32.toNatClampNeg_ofNat_of_lt (by have := h.1; omega), Int32.toNatClampNeg_ofNat_of_lt (by have := h.1; omega)] at a
      exact a
    subst e
    exact ⟨g1, g2⟩
theorem zw_net1 {z : St} {nb nn : Nat} (h : zRcnt z nb nn) (N : Nat) {i : Nat} (hi : i < nn) : fX11_netOf N 0 (Int32.ofNat i) z = some (some i, z) ∧ fX19_isNet N 0 (Int32.ofNat i) z = some ((1 : Int32), z) := by
  rcases zw_netOf h N (Int32.ofNat i) with ⟨g1, g2⟩ | ⟨j, hj, ej, g1, g2⟩
  · obtain ⟨hb, hn, b1, b2, n1, n2, q1, q2, q3⟩ := h
    unfold fX19_isNet at g2
    rw [if_neg (znlt (by omega)), n2, if_neg ((zof_lt (k := i) (N := nn) hi (by omega)).2.2.1)] at g2
    cases g2
  · have e : i = j := by
      have a := congrArg Int32.toNatClampNeg ej
      rw [Int32.toNatClampNeg_ofNat_of_lt (by have := h.2.1; omega), Int32.toNatClampNeg_ofNat_of_lt (by have := h.2.1; omega)] at a
      exact a
    subst e
    exact ⟨g1, g2⟩
theorem zw_20 {z : St} {nb nn : Nat} (hz : zRcnt z nb nn) (hn : ∀ n, n < nn → zgI z 5 9 n = zgI z 16 8 n ∧ zgI z 5 10 n = zgI z 16 9 n) (ht : ∀ b, b < nb → zRtal z b) (N : Nat) (sc : Nat → Int32) (I : List (Nat × Nat)) (cc ss : Nat) (hr : (cc + rmL_count.cells) ≤ room_1.cells ∧ (ss + rmL_count.slots) ≤ room_1.slots) :
    (∃ v : Int64, fLaw_20 N sc I cc ss z = some (zsI (zsL z 193 0 0 v) 19 25 0 0, I, cc + rmL_count.cells, ss + rmL_count.slots)) ∨ fLaw_20 N sc I cc ss z = some (zsI z 19 25 0 1, I, cc + rmL_count.cells, ss + rmL_count.slots) := by
  have thr : ∀ w : St, fX19_count_40 N 0 (sc 1) (sc 2) w = some ((0 : Int32), zsI w 19 25 0 1) := fun w => by
    simp [fX19_count_40, fX19_count_41, fX19_count_52, zfails_1, zc]
  by_cases c0 : sc 2 < 0
  · refine Or.inr (zw_20t hr (r := 0) ?_ ?_)
    · simp [fX11_count, c0, fX11_count_10]
    · have c1 : sc 2 ≤ 1 := Int32.le_trans (Int32.le_of_lt c0) (by decide)
      simp [fX19_count, c0, fX19_count_17, c1, thr]
  by_cases c7 : sc 2 ≤ 7
  · obtain ⟨i, hi, ei⟩ := zlt8 c0 c7
    have c8 : ¬ (8 : Int32) ≤ sc 2 := fun c => absurd (Int32.le_trans c c7) (by decide)
    by_cases c2 : (2 : Int32) ≤ sc 2
    · have c1 : ¬ sc 2 ≤ 1 := fun c => absurd (Int32.le_trans c2 c) (by decide)
      rcases zcase (Nat.le_trans hz.1 (by decide)) (sc 1) with c | ⟨b, hb, eb⟩
      · obtain ⟨g1, g2⟩ := zw_box0 hz N c
        refine Or.inr (zw_20t hr (r := 0) ?_ ?_)
        · simp [fX11_count, c0, c7, c2, g1, zc, zo]
        · simp [fX19_count, c0, c2, fX19_count_17, c1, c8, g2, zc, thr]
      · have g1 := (zw_box1 hz N hb).1
        have g2 := fun v => (zw_box1 (zRcnt_L (v := v) hz) N hb).2
        have t := ht b hb
        have q2 := (hz.2.2.2.2.2.2.2.1 b hb).2
        have hb16 : b < 16 := Nat.lt_of_lt_of_le hb hz.1
        have eb2 : (Int32.ofNat b).toNatClampNeg = b := Int32.toNatClampNeg_ofNat_of_lt (by omega)
        have key : ∃ v : Int32, fX11_count N 0 (sc 1) (sc 2) z = some (.inl v, z) ∧ fX19_count N 0 (sc 1) (sc 2) (zsL z 193 0 0 v.toInt64) = some (v, zsI (zsL z 193 0 0 v.toInt64) 19 25 0 0) := by
          rw [eb, ei] at *
          match i, hi with
          | 0, _ => exact absurd c2 (by decide)
          | 1, _ => exact absurd c2 (by decide)
          | 2, _ => exact ⟨zgA z 113 b 2, by simp [fX11_count, g1, zc, zo, zk], by simp [fX19_count, fX19_count_17, fX19_count_36, fX19_count_41, fX19_count_52, g2, zc, zfails_0, zck hb16, zl, zd, eb2, zgQ_sI, zgQ_sL, q2, zgI_sI, zgI_sL, t.1]⟩
          | 3, _ => exact ⟨zgA z 113 b 3, by simp [fX11_count, g1, zc, zo, zk], by simp [fX19_count, fX19_count_17, fX19_count_36, fX19_count_41, fX19_count_52, g2, zc, zfails_0, zck hb16, zl, zd, eb2, zgQ_sI, zgQ_sL, q2, zgI_sI, zgI_sL, t.2.1]⟩
          | 4, _ => exact ⟨zgA z 113 b 4, by simp [fX11_count, g1, zc, zo, zk], by simp [fX19_count, fX19_count_17, fX19_count_36, fX19_count_41, fX19_count_52, g2, zc, zfails_0, zck hb16, zl, zd, eb2, zgQ_sI, zgQ_sL, q2, zgI_sI, zgI_sL, t.2.2.1]⟩
          | 5, _ => exact ⟨zgA z 113 b 5, by simp [fX11_count, g1, zc, zo, zk], by simp [fX19_count, fX19_count_17, fX19_count_36, fX19_count_41, fX19_count_52, g2, zc, zfails_0, zck hb16, zl, zd, eb2, zgQ_sI, zgQ_sL, q2, zgI_sI, zgI_sL, t.2.2.2.1]⟩
          | 6, _ => exact ⟨zgA z 113 b 6, by simp [fX11_count, g1, zc, zo, zk], by simp [fX19_count, fX19_count_17, fX19_count_36, fX19_count_41, fX19_count_52, g2, zc, zfails_0, zck hb16, zl, zd, eb2, zgQ_sI, zgQ_sL, q2, zgI_sI, zgI_sL, t.2.2.2.2.1]⟩
          | 7, _ => exact ⟨zgA z 113 b 7, by simp [fX11_count, g1, zc, zo, zk], by simp [fX19_count, fX19_count_17, fX19_count_36, fX19_count_41, fX19_count_52, g2, zc, zfails_0, zck hb16, zl, zd, eb2, zgQ_sI, zgQ_sL, q2, zgI_sI, zgI_sL, t.2.2.2.2.2]⟩
        obtain ⟨v, k1, k2⟩ := key
        exact Or.inl ⟨v.toInt64, zw_20s hr k1 k2⟩
    · have c1 : sc 2 ≤ 1 := by
        have h := Int32.lt_iff_toInt_lt.mp (Int32.not_le.mp c2)
        refine Int32.le_iff_toInt_le.mpr ?_
        have a7 : (2 : Int32).toInt = 2 := rfl
        have a8 : (1 : Int32).toInt = 1 := rfl
        omega
      rcases zcase hz.2.1 (sc 1) with c | ⟨b, hb, eb⟩
      · obtain ⟨g1, g2⟩ := zw_net0 hz N c
        refine Or.inr (zw_20t hr (r := 0) ?_ ?_)
        · simp [fX11_count, c0, c7, c2, g1, zc, zo]
        · simp [fX19_count, c0, c2, fX19_count_17, c1, g2, zc, thr]
      · have g1 := (zw_net1 hz N hb).1
        have g2 := fun v => (zw_net1 (zRcnt_L (v := v) hz) N hb).2
        have t := hn b hb
        have q2 := hz.2.2.2.2.2.2.2.2 b hb
        have hb16 : b < 24 := Nat.lt_of_lt_of_le hb hz.2.1
        have eb2 : (Int32.ofNat b).toNatClampNeg = b := Int32.toNatClampNeg_ofNat_of_lt (by omega)
        have key : ∃ v : Int32, fX11_count N 0 (sc 1) (sc 2) z = some (.inl v, z) ∧ fX19_count N 0 (sc 1) (sc 2) (zsL z 193 0 0 v.toInt64) = some (v, zsI (zsL z 193 0 0 v.toInt64) 19 25 0 0) := by
          rw [eb, ei] at *
          match i, hi with
          | 0, _ => exact ⟨zgI z 5 9 b, by simp [fX11_count, g1, zc, zo], by simp [fX19_count, fX19_count_36, fX19_count_41, fX19_count_52, g2, zc, zfails_0, zck hb16, zl, zd, eb2, zgQ_sI, zgQ_sL, q2, zgI_sI, zgI_sL, t.1]⟩
          | 1, _ => exact ⟨zgI z 5 10 b, by simp [fX11_count, g1, zc, zo], by simp [fX19_count, fX19_count_36, fX19_count_41, fX19_count_52, g2, zc, zfails_0, zck hb16, zl, zd, eb2, zgQ_sI, zgQ_sL, q2, zgI_sI, zgI_sL, t.2]⟩
          | j + 2, _ => exact absurd (Int32.le_iff_toInt_le.mpr (by rw [Int32.toInt_ofNat_of_lt (by omega)]; have a7 : (2 : Int32).toInt = 2 := rfl; omega)) c2
        obtain ⟨v, k1, k2⟩ := key
        exact Or.inl ⟨v.toInt64, zw_20s hr k1 k2⟩
  · refine Or.inr (zw_20t hr (r := 0) ?_ ?_)
    · simp [fX11_count, c0, c7, fX11_count_10]
    · have c2 : (2 : Int32) ≤ sc 2 := Int32.le_trans (by decide) (Int32.le_of_lt (Int32.not_le.mp c7))
      have c1 : ¬ sc 2 ≤ 1 := fun c => absurd (Int32.le_trans c2 c) (by decide)
      have c8 : (8 : Int32) ≤ sc 2 := by
        have h := Int32.lt_iff_toInt_lt.mp (Int32.not_le.mp c7)
        refine Int32.le_iff_toInt_le.mpr ?_
        have a7 : (7 : Int32).toInt = 7 := rfl
        have a8 : (8 : Int32).toInt = 8 := rfl
        omega
      simp [fX19_count, c0, c2, fX19_count_17, c1, c8, thr]
