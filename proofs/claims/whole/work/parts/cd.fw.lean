/-! ways: sums over all middles are the least ones (pure) -/
theorem zcnt_up {U : Nat → Bool} {x n : Nat} (hx : x < n) (h : U x = false) : zcnt (zupd U x true) n = zcnt U n + 1 := by
  induction n with
  | zero => omega
  | succ n ih =>
    show zcnt (zupd U x true) n + (if zupd U x true n = true then 1 else 0) = zcnt U n + (if U n = true then 1 else 0) + 1
    by_cases c : x = n
    · subst c
      rw [zupd_s, if_pos rfl, h, if_neg (by decide), zcnt_cg (V := U) (fun j hj => zupd_n (by omega))]
    · rw [ih (by omega), zupd_n (fun y => c y.symm)]; omega
theorem dij_end {Ba : Nat → Option Ad} {S : Nat} (hBe : ∀ r, ∀ e, e ∈ bE Ba r → e.1 ≤ 16 ∧ 1 ≤ e.2.2 ∧ e.2.2 ≤ 1000) : ∀ (n j : Nat) (s : Rdh), j + n = 16 → zcnt s.1 16 = j → zDi Ba S j s → ∃ k, k ≤ 16 ∧ zDi Ba S k (dij Ba S n s) ∧ nstk (dij Ba S n s).1 (dij Ba S n s).2.1 16 = none := by
  intro n
  induction n with
  | zero =>
    intro j s hj hc h
    refine ⟨j, by omega, h, ?_⟩
    show nstk s.1 s.2.1 16 = none
    cases e : nstk s.1 s.2.1 16 with
    | none => rfl
    | some x =>
      obtain ⟨a, b, -⟩ := nstk_some e
      have := zcnt_full (U := s.1) (n := 16) (by omega) x a
      rw [this] at b; cases b
  | succ n ih =>
    intro j s hj hc h
    unfold dij
    cases e : nstk s.1 s.2.1 16 with
    | none => exact ⟨j, by omega, h, e⟩
    | some x =>
      obtain ⟨a, b, -⟩ := nstk_some e
      exact ih (j + 1) _ (by omega) (by rw [← hc]; exact zcnt_up a b) (zDi_1 (by omega) hBe e h)
/-- what sums over all middles below k are -/
def zFW (Ba : Nat → Option Ad) (k : Nat) (D : Nat → Nat → Nat) : Prop :=
  (∀ x, x < 16 → D x x = 0) ∧ (∀ x y, x < 16 → y < 16 → D x y ≤ FARn) ∧ (∀ x t n c, x < 16 → t < 16 → Ed Ba x t n c → D x t ≤ c) ∧ (∀ x m y, x < 16 → m < 16 → m < k → y < 16 → D x y ≤ D x m + D m y) ∧ ∀ x y, x < 16 → y < 16 → x ≠ y → D x y < FARn → ∃ r n c, r < 16 ∧ Ed Ba x r n c ∧ c + D r y ≤ D x y
def fwS (k : Nat) (D : Nat → Nat → Nat) (x y : Nat) : Nat := if D x y ≤ D x k + D k y then D x y else D x k + D k y
theorem fwS_k {D : Nat → Nat → Nat} {k : Nat} (h : D k k = 0) (x : Nat) : fwS k D x k = D x k ∧ fwS k D k x = D k x := by
  unfold fwS
  rw [h]
  exact ⟨if_pos (by omega), if_pos (by omega)⟩
theorem fwS_le (D : Nat → Nat → Nat) (k x y : Nat) : fwS k D x y ≤ D x y ∧ fwS k D x y ≤ D x k + D k y ∧ (fwS k D x y = D x y ∨ fwS k D x y = D x k + D k y) := by
  unfold fwS
  by_cases c : D x y ≤ D x k + D k y
  · rw [if_pos c]; exact ⟨by omega, by omega, Or.inl rfl⟩
  · rw [if_neg c]; exact ⟨by omega, by omega, Or.inr rfl⟩
theorem zFW_1 {Ba : Nat → Option Ad} {k : Nat} {D : Nat → Nat → Nat} (hk : k < 16) (h : zFW Ba k D) : zFW Ba (k + 1) (fwS k D) := by
  obtain ⟨a, b, c, d, e⟩ := h
  refine ⟨fun x hx => ?_, fun x y hx hy => ?_, fun x t n w hx ht hE => ?_, fun x m y hx hm hmk hy => ?_, fun x y hx hy hxy hlt => ?_⟩
  · have := (fwS_le D k x x).1
    rw [a x hx] at this; omega
  · have := (fwS_le D k x y).1
    have := b x y hx hy; omega
  · have := (fwS_le D k x t).1
    have := c x t n w hx ht hE; omega
  · have kk := a k hk
    by_cases q : m = k
    · subst q
      rw [(fwS_k kk x).1, (fwS_k kk y).2]; exact (fwS_le D m x y).2.1
    · have mk : m < k := by omega
      obtain ⟨r1, r2, -⟩ := fwS_le D k x y
      obtain ⟨-, -, p1⟩ := fwS_le D k x m
      obtain ⟨-, -, p2⟩ := fwS_le D k m y
      have t1 := d x m y hx hm mk hy
      have t2 := d x m k hx hm mk hk
      have t3 := d k m y hk hm mk hy
      rcases p1 with p1 | p1 <;> rcases p2 with p2 | p2 <;> omega
  · obtain ⟨r1, r2, r3⟩ := fwS_le D k x y
    rcases r3 with r3 | r3
    · obtain ⟨r, n, w, h1, h2, h3⟩ := e x y hx hy hxy (by omega)
      exact ⟨r, n, w, h1, h2, by have := (fwS_le D k r y).1; omega⟩
    · by_cases q : x = k
      · subst q
        rw [a x hx] at r3
        have r3 : fwS x D x y = D x y := by omega
        obtain ⟨r, n, w, h1, h2, h3⟩ := e x y hx hy hxy (by omega)
        exact ⟨r, n, w, h1, h2, by have := (fwS_le D x r y).1; omega⟩
      · obtain ⟨r, n, w, h1, h2, h3⟩ := e x k hx hk q (by omega)
        exact ⟨r, n, w, h1, h2, by have := (fwS_le D k r y).2.1; omega⟩
/-- the end of both: distances and least first steps -/
def zDn (Ba : Nat → Option Ad) (S : Nat) (d h : Nat → Nat) : Prop :=
  (d S = 0 ∧ h S = 0) ∧ (∀ t, d t = FARn ∨ d t ≤ 16000) ∧ (∀ t, 16 ≤ t → d t = FARn) ∧
  (∀ x t n c, d x < FARn → Ed Ba x t n c → d t ≤ d x + c ∧ (t ≠ S → d t = d x + c → h t ≤ beg S x h t n)) ∧
  ∀ t, t ≠ S → d t < FARn → ∃ x n c, d x < FARn ∧ Ed Ba x t n c ∧ d t = d x + c ∧ h t = beg S x h t n
theorem zDn.d0 {Ba : Nat → Option Ad} {S : Nat} {d h : Nat → Nat} (H : zDn Ba S d h) : d S = 0 := H.1.1
theorem zDn.df {Ba : Nat → Option Ad} {S : Nat} {d h : Nat → Nat} (H : zDn Ba S d h) : ∀ t, d t = FARn ∨ d t ≤ 16000 := H.2.1
theorem zDn.dg {Ba : Nat → Option Ad} {S : Nat} {d h : Nat → Nat} (H : zDn Ba S d h) : ∀ t, 16 ≤ t → d t = FARn := H.2.2.1
theorem zDn.up {Ba : Nat → Option Ad} {S : Nat} {d h : Nat → Nat} (H : zDn Ba S d h) : ∀ x t n c, d x < FARn → Ed Ba x t n c → d t ≤ d x + c ∧ (t ≠ S → d t = d x + c → h t ≤ beg S x h t n) := H.2.2.2.1
theorem zDn.by_ {Ba : Nat → Option Ad} {S : Nat} {d h : Nat → Nat} (H : zDn Ba S d h) : ∀ t, t ≠ S → d t < FARn → ∃ x n c, d x < FARn ∧ Ed Ba x t n c ∧ d t = d x + c ∧ h t = beg S x h t n := H.2.2.2.2
theorem zDn_dij {Ba : Nat → Option Ad} {S : Nat} (hS : S < 16) (hBe : ∀ r, ∀ e, e ∈ bE Ba r → e.1 ≤ 16 ∧ 1 ≤ e.2.2 ∧ e.2.2 ≤ 1000) : zDn Ba S (dij Ba S 16 (dij0 S)).2.1 (dij Ba S 16 (dij0 S)).2.2 := by
  obtain ⟨k, hk, ⟨⟨a1, a2, a3, a4⟩, b, c, e, f⟩, hn⟩ := dij_end hBe 16 0 (dij0 S) rfl (by
    have : ∀ n, zcnt (dij0 S).1 n = 0 := by
      intro n
      induction n with
      | zero => rfl
      | succ n ih => show zcnt (dij0 S).1 n + (if (dij0 S).1 n = true then 1 else 0) = 0; rw [ih]; rfl
    exact this 16) (zDi_0 hS)
  generalize dij Ba S 16 (dij0 S) = s at *
  have re : ∀ x, s.2.1 x < FARn → s.1 x = true := fun x hx => by
    by_cases x16 : x < 16
    · rcases nstk_none hn x x16 with q | q
      · exact q
      · omega
    · rw [a4 x (by omega)] at hx; omega
  exact ⟨⟨a1, a2⟩, fun t => (a3 t).imp id (fun q => by omega), a4, fun x t n w hx hE => c x t n w (re x hx) hE, fun t h1 h2 => by
    obtain ⟨x, n, w, h3, h4, h5, h6⟩ := e t h1 h2
    exact ⟨x, n, w, (b x h3).2, h4, h5, h6⟩⟩
theorem Ed_b {Ba : Nat → Option Ad} (hBe : ∀ r, ∀ e, e ∈ bE Ba r → e.1 ≤ 16 ∧ 1 ≤ e.2.2 ∧ e.2.2 ≤ 1000) {x t n c : Nat} (h : Ed Ba x t n c) : t < 16 ∧ 1 ≤ c ∧ c ≤ 1000 := by
  have := hBe x _ h.1
  exact ⟨show t + 1 ≤ 16 from this.1, this.2⟩
theorem zDn_lt {Ba : Nat → Option Ad} {S : Nat} {d h : Nat → Nat} (H : zDn Ba S d h) {t : Nat} (q : d t < FARn) : d t ≤ 16000 ∧ t < 16 := by
  refine ⟨?_, ?_⟩
  · rcases H.df t with y | y
    · omega
    · exact y
  · by_cases y : t < 16
    · exact y
    · rw [H.dg t (by omega)] at q; omega
/-- both distances are the same -/
theorem zDn_le {Ba : Nat → Option Ad} {S : Nat} {d h : Nat → Nat} {D : Nat → Nat → Nat} (hBe : ∀ r, ∀ e, e ∈ bE Ba r → e.1 ≤ 16 ∧ 1 ≤ e.2.2 ∧ e.2.2 ≤ 1000) (H : zDn Ba S d h) (F : zFW Ba 16 D) : ∀ (m x t : Nat), D x t ≤ m → x < 16 → t < 16 → d x < FARn → D x t < FARn → d t ≤ d x + D x t ∧ (x ≠ S → d t = d x + D x t → t ≠ S → h t ≤ h x) := by
  obtain ⟨a, b, c, tr, e⟩ := F
  intro m
  induction m with
  | zero =>
    intro x t hm hx ht hdx hD
    by_cases q : x = t
    · subst q; exact ⟨by omega, fun _ _ _ => Nat.le_refl _⟩
    · obtain ⟨r, n, w, h1, h2, h3⟩ := e x t hx ht q hD
      have := (Ed_b hBe h2).2.1
      omega
  | succ m ih =>
    intro x t hm hx ht hdx hD
    by_cases q : x = t
    · subst q; exact ⟨by omega, fun _ _ _ => Nat.le_refl _⟩
    · obtain ⟨r, n, w, h1, h2, h3⟩ := e x t hx ht q hD
      have w1 := Ed_b hBe h2
      have xb := zDn_lt H hdx
      obtain ⟨u1, u2⟩ := H.up x r n w hdx h2
      have rf : d r < FARn := by unfold FARn; omega
      obtain ⟨i1, i2⟩ := ih r t (by omega) h1 ht rf (by omega)
      refine ⟨by omega, fun xS eq tS => ?_⟩
      have rS : r ≠ S := fun y => by rw [y, H.d0] at u1 i1; have := H.d0; rw [y] at h3; omega
      have e1 : d r = d x + w := by omega
      have := u2 rS e1
      unfold beg at this
      rw [if_neg xS] at this
      exact Nat.le_trans (i2 rS (by omega) tS) this
theorem zDn_eq {Ba : Nat → Option Ad} {S : Nat} {d h : Nat → Nat} {D : Nat → Nat → Nat} (hS : S < 16) (hBe : ∀ r, ∀ e, e ∈ bE Ba r → e.1 ≤ 16 ∧ 1 ≤ e.2.2 ∧ e.2.2 ≤ 1000) (H : zDn Ba S d h) (F : zFW Ba 16 D) {t : Nat} (ht : t < 16) : d t = D S t := by
  obtain ⟨a, b, c, tr, e⟩ := F
  apply Nat.le_antisymm
  · by_cases q : D S t < FARn
    · have := (zDn_le hBe H ⟨a, b, c, tr, e⟩ (D S t) S t (Nat.le_refl _) hS ht (by rw [H.d0]; decide) q).1
      rw [H.d0] at this; omega
    · rcases H.df t with y | y
      · omega
      · have : (16000 : Nat) ≤ FARn := by decide
        omega
  · have go : ∀ (m t : Nat), d t ≤ m → t < 16 → D S t ≤ d t := by
      intro m
      induction m with
      | zero =>
        intro t hm ht
        by_cases q : t = S
        · rw [q, a S hS]; exact Nat.zero_le _
        · obtain ⟨x, n, w, h1, h2, h3, h4⟩ := H.by_ t q (by unfold FARn; omega)
          have := (Ed_b hBe h2).2.1
          omega
      | succ m ih =>
        intro t hm ht
        by_cases q : t = S
        · rw [q, a S hS]; exact Nat.zero_le _
        · by_cases f : d t < FARn
          · obtain ⟨x, n, w, h1, h2, h3, h4⟩ := H.by_ t q f
            have w1 := (Ed_b hBe h2).2.1
            have x16 := (zDn_lt H h1).2
            have i := ih x (by omega) x16
            have := tr S x t hS x16 x16 ht
            have := c x t n w x16 ht h2
            omega
          · have := b S t hS ht
            omega
    exact go (d t) t (Nat.le_refl _) ht
/-- least first steps -/
theorem zDn_h {Ba : Nat → Option Ad} {S : Nat} {d h : Nat → Nat} {D : Nat → Nat → Nat} (hS : S < 16) (hBe : ∀ r, ∀ e, e ∈ bE Ba r → e.1 ≤ 16 ∧ 1 ≤ e.2.2 ∧ e.2.2 ≤ 1000) (H : zDn Ba S d h) (F : zFW Ba 16 D) : ∀ (m t : Nat), d t ≤ m → t < 16 → t ≠ S → d t < FARn → (∃ r n c, r < 16 ∧ Ed Ba S r n c ∧ c + D r t = D S t ∧ h t = 16 * n + r + 1) ∧ ∀ r n c, Ed Ba S r n c → c + D r t = D S t → h t ≤ 16 * n + r + 1 := by
  have F0 := F
  obtain ⟨a, b, c, tr, e⟩ := F
  intro m t hm ht tS hf
  refine ⟨?_, fun r n w hE heq => ?_⟩
  · have go : ∀ (m t : Nat), d t ≤ m → t < 16 → t ≠ S → d t < FARn → ∃ r n c, r < 16 ∧ Ed Ba S r n c ∧ c + D r t = D S t ∧ h t = 16 * n + r + 1 := by
      intro m
      induction m with
      | zero =>
        intro t hm ht tS hf
        obtain ⟨x, n, w, h1, h2, h3, h4⟩ := H.by_ t tS hf
        have := (Ed_b hBe h2).2.1
        omega
      | succ m ih =>
        intro t hm ht tS hf
        obtain ⟨x, n, w, h1, h2, h3, h4⟩ := H.by_ t tS hf
        have w1 := (Ed_b hBe h2).2.1
        have x16 := (zDn_lt H h1).2
        unfold beg at h4
        have et := zDn_eq hS hBe H F0 ht
        by_cases q : x = S
        · rw [if_pos q] at h4
          rw [q] at h2 h3
          rw [H.d0] at h3
          exact ⟨t, n, w, ht, h2, by rw [a t ht]; omega, h4⟩
        · rw [if_neg q] at h4
          obtain ⟨r, n', w', r16, g1, g2, g3⟩ := ih x (by omega) x16 q h1
          refine ⟨r, n', w', r16, g1, ?_, h4.trans g3⟩
          have ex := zDn_eq hS hBe H F0 x16
          have t1 := tr r x t r16 x16 x16 ht
          have t2 := c x t n w x16 ht h2
          have t3 := tr S r t hS r16 r16 ht
          have t4 := c S r n' w' hS r16 g1
          omega
    exact go m t hm ht tS hf
  · have w1 := Ed_b hBe hE
    have et := zDn_eq hS hBe H F0 ht
    have er := zDn_eq hS hBe H F0 w1.1
    have t4 := c S r n w hS w1.1 hE
    have t3 := tr S r t hS w1.1 w1.1 ht
    have dr : d r = w := by omega
    have rS : r ≠ S := fun y => by rw [y, H.d0] at dr; omega
    obtain ⟨-, u2⟩ := H.up S r n w (by rw [H.d0]; decide) hE
    have hr := u2 rS (by rw [H.d0]; omega)
    unfold beg at hr
    rw [if_pos rfl] at hr
    have := (zDn_le hBe H F0 (D r t) r t (Nat.le_refl _) w1.1 ht (by unfold FARn; omega) (by omega)).2 rS (by omega) tS
    omega
