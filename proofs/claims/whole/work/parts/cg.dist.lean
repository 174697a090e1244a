/-! ways: the class finds distances -/
theorem zn16 : ∀ n, n < 24 → Int32.ofNat n * (16 : Int32) = Int32.ofNat (16 * n) := by decide +kernel
theorem znar1 : vp_nar .boolean (1 : Int32) = zbi true := by decide
theorem znar0 : vp_nar .boolean (0 : Int32) = zbi false := by decide
def zHb (s : Dh) : Prop := ∀ t, s.1 t ≤ FARn ∧ s.2 t ≤ 400
theorem zHb_rlx {t far bg : Nat} {s : Dh} (h : zHb s) (hf : far ≤ FARn) (hb : bg ≤ 400) : zHb (rlx t far bg s) := fun u => by
  by_cases e : u = t
  · subst e
    rcases rlx_c (t := u) (far := far) (bg := bg) (s := s) with ⟨a, b⟩ | ⟨a, b⟩
    · rw [a, b]; exact h u
    · rw [a, b]; exact ⟨hf, hb⟩
  · obtain ⟨a, b⟩ := rlx_o (far := far) (bg := bg) (s := s) e
    rw [a, b]; exact h u
theorem zc_goOnFrom {z : St} {b x N : Nat} {Ba : Nat → Option Ad} {re : Nat → Bool} {s : Dh} (hB : zRCb z b Ba) (hBn : zBn Ba) (h0 : zgI z 0 0 b = Int32.ofNat b) (hb : b < 16) (hx : x < 16) (hr : re x = true) (hd : s.1 x ≤ 16000) (hH : zHb s) (hW : zYd z b re s) (hN : 24 < N) : ∃ z', fX0_goOnFrom N b (Int32.ofNat x) z = some (0, z') ∧ zYd z' b re (gon Ba b x re s) ∧ zHb (gon Ba b x re s) ∧ zYk b z z' := by
  have hL := hBn x
  have F9 : FARn = 1000000000 := rfl
  have loop : ∀ (C A : List En) (nn : Nat) (y : St) (s' : Dh), A ++ C = bE Ba x → C.length < nn → zYd y b re s' → zHb s' → s'.1 x = s.1 x → s'.2 x = s.2 x → zYk b z y → ∃ z', fX0_goOnFrom_2 N nn b (Int32.ofNat x) (Int32.ofNat A.length) y = some (0, z') ∧ zYd z' b re (C.foldl (gstep Ba b x re) s') ∧ zHb (C.foldl (gstep Ba b x re) s') ∧ zYk b z z' := by
    intro C
    induction C with
    | nil =>
      intro A nn y s' e hn hY hb' e1 e2 hk
      obtain ⟨nn, rfl⟩ : ∃ k, nn = k + 1 := ⟨nn - 1, by omega⟩
      rw [List.append_nil] at e
      refine ⟨y, ?_, hY, hb', hk⟩
      show fX0_goOnFrom_2b N (fX0_goOnFrom_2 N nn) b (Int32.ofNat x) (Int32.ofNat A.length) y = _
      unfold fX0_goOnFrom_2b
      rw [zkk hx (by omega), zoC (by omega), (zRCb_e (zYk_b hk hB) hx).1, e, if_pos (Int32.le_refl _)]
    | cons a C ih =>
      intro A nn y s' e hn hY hb' e1 e2 hk
      obtain ⟨nn, rfl⟩ : ∃ k, nn = k + 1 := ⟨nn - 1, by omega⟩
      have hl := hL.1
      have hlen : A.length < (bE Ba x).length := by rw [← e, List.length_append, List.length_cons]; omega
      have hget : (bE Ba x)[A.length]? = some a := by rw [← e, List.getElem?_append_right (Nat.le_refl _), Nat.sub_self]; rfl
      have By := zYk_b hk hB
      obtain ⟨c1, c2⟩ := zRCb_e By hx
      obtain ⟨a1, a2, a3, a4⟩ := hL.2 a (List.mem_of_getElem? hget)
      obtain ⟨d1, d2, d3⟩ := zdec (e := a) (by omega) (by omega) (by omega)
      have go : ∀ (y' : St) (s'' : Dh), zYd y' b re s'' → zHb s'' → s''.1 x = s.1 x → s''.2 x = s.2 x → zYk b z y' → s'' = gstep Ba b x re s' a → ∃ z', fX0_goOnFrom_167 N (fX0_goOnFrom_2 N nn) b (Int32.ofNat x) (Int32.ofNat A.length) y' = some (0, z') ∧ zYd z' b re ((a :: C).foldl (gstep Ba b x re) s') ∧ zHb ((a :: C).foldl (gstep Ba b x re) s') ∧ zYk b z z' := by
        intro y' s'' g1 g2 g3 g4 g5 g6
        have := ih (A ++ [a]) nn y' s'' (by rw [List.append_assoc]; exact e) (by simp at hn; omega) g1 g2 g3 g4 g5
        rw [List.length_append, show [a].length = 1 from rfl, g6] at this
        unfold fX0_goOnFrom_167
        rw [zo_i1, zl_e]
        exact this
      have skip : gstep Ba b x re s' a = s' → ∃ z', fX0_goOnFrom_167 N (fX0_goOnFrom_2 N nn) b (Int32.ofNat x) (Int32.ofNat A.length) y = some (0, z') ∧ zYd z' b re ((a :: C).foldl (gstep Ba b x re) s') ∧ zHb ((a :: C).foldl (gstep Ba b x re) s') ∧ zYk b z z' := fun q => go y s' hY hb' e1 e2 hk q.symm
      show ∃ z', fX0_goOnFrom_2b N (fX0_goOnFrom_2 N nn) b (Int32.ofNat x) (Int32.ofNat A.length) y = some (0, z') ∧ _
      unfold fX0_goOnFrom_2b fX0_friendOf fX0_netOfEntry fX0_tollOf
      rw [zkk hx (by omega), zoC (by omega), c1, if_neg (by rw [zo_le (by omega) (by omega)]; omega), zkk hx (by omega), zkk (by omega) (by omega), zoC (by omega), c2 _ _ hget, zl_e, zc_e, zc_e, d1, d2]
      by_cases k1 : a.1 = 0
      · rw [if_pos ((zom_0 (by omega)).mpr k1)]
        exact skip (if_pos (Or.inl k1))
      · obtain ⟨t, ht⟩ : ∃ t, a.1 = t + 1 := ⟨a.1 - 1, by omega⟩
        have t16 : t < 16 := by omega
        obtain ⟨y1, y2, y3⟩ := hY t t16
        rw [if_neg (fun q => k1 ((zom_0 (by omega)).mp q)), ht, zo_s1 (Nat.succ_pos t), show t.succ - 1 = t from rfl, if_neg (by rw [show (16 : Int32) = Int32.ofNat 16 from rfl, zo_le (by omega) (by omega)]; omega), zkk t16 (by omega), zoC (by omega), y2]
        have gs : gstep Ba b x re s' a = if re t = true ∨ tellB Ba t x a.2.1 = false then s' else rlx t (s'.1 x + a.2.2) (beg b x s'.2 t a.2.1) s' := by
          unfold gstep
          rw [ht, Nat.add_sub_cancel]
          by_cases q : re t = true ∨ tellB Ba t x a.2.1 = false
          · rw [if_pos (Or.inr q), if_pos q]
          · rw [if_neg q, if_neg (fun y => y.elim (fun y => Nat.succ_ne_zero _ y) q)]
        by_cases k2 : re t = true
        · rw [if_pos (by rw [k2]; decide)]
          exact skip (by rw [gs, if_pos (Or.inl k2)])
        · have k2 : re t = false := by simpa using k2
          rw [if_neg (by rw [k2]; decide), zc_tellsOfFriend By hBn t16 hx a2 hN, zc_e]
          by_cases k3 : tellB Ba t x a.2.1 = true
          · have tx : t ≠ x := fun q => by rw [q, hr] at k2; cases k2
            rw [if_pos (by rw [k3]; decide), zkk hx (by omega), zc_e, d3, (hY x hx).1, zo_add, zl_e, hk.1 0 0 b, h0]
            have gs2 : gstep Ba b x re s' a = rlx t (s'.1 x + a.2.2) (beg b x s'.2 t a.2.1) s' := by rw [gs, if_neg (by rw [k2, k3]; simp)]
            have dx : s'.1 x + a.2.2 ≤ 17000 := by rw [e1]; omega
            have hbg : beg b x s'.2 t a.2.1 ≤ 400 := by
              unfold beg
              by_cases q : x = b
              · rw [if_pos q]; omega
              · rw [if_neg q]; exact (hb' x).2
            have tail : ∃ z', fX0_goOnFrom_108 N (fX0_goOnFrom_2 N nn) b (Int32.ofNat x) (Int32.ofNat A.length) (Int32.ofNat t) (Int32.ofNat (s'.1 x + a.2.2)) (Int32.ofNat (beg b x s'.2 t a.2.1) - 1) y = some (0, z') ∧ zYd z' b re ((a :: C).foldl (gstep Ba b x re) s') ∧ zHb ((a :: C).foldl (gstep Ba b x re) s') ∧ zYk b z z' := by
              have dt := hb' t
              unfold fX0_goOnFrom_108
              rw [zkk t16 (by omega), zoC (by omega), y1]
              have set : ¬ (s'.1 t < s'.1 x + a.2.2 ∨ (s'.1 t = s'.1 x + a.2.2 ∧ s'.2 t ≤ beg b x s'.2 t a.2.1)) → ∃ z', fX0_goOnFrom_149 N (fX0_goOnFrom_2 N nn) b (Int32.ofNat x) (Int32.ofNat A.length) (Int32.ofNat t) (Int32.ofNat (s'.1 x + a.2.2)) (Int32.ofNat (beg b x s'.2 t a.2.1) - 1) y = some (0, z') ∧ zYd z' b re ((a :: C).foldl (gstep Ba b x re) s') ∧ zHb ((a :: C).foldl (gstep Ba b x re) s') ∧ zYk b z z' := fun q => by
                unfold fX0_goOnFrom_149
                rw [zkk t16 (by omega), zl_e, zkk t16 (by omega), zl_e, zoC (by omega)]
                have er : rlx t (s'.1 x + a.2.2) (beg b x s'.2 t a.2.1) s' = (zupd s'.1 t (s'.1 x + a.2.2), zupd s'.2 t (beg b x s'.2 t a.2.1)) := if_neg q
                refine go _ (rlx t (s'.1 x + a.2.2) (beg b x s'.2 t a.2.1) s') (by rw [er]; exact zYd_set hY) (zHb_rlx hb' (by omega) hbg) ?_ ?_ (zYk_tr hk (zYk_tr (zYk_A (Or.inl rfl)) (zYk_A (Or.inr (Or.inr rfl))))) gs2.symm
                · exact (rlx_o (Ne.symm tx)).1.trans e1
                · exact (rlx_o (Ne.symm tx)).2.trans e2
              have keep : (s'.1 t < s'.1 x + a.2.2 ∨ (s'.1 t = s'.1 x + a.2.2 ∧ s'.2 t ≤ beg b x s'.2 t a.2.1)) → ∃ z', fX0_goOnFrom_167 N (fX0_goOnFrom_2 N nn) b (Int32.ofNat x) (Int32.ofNat A.length) y = some (0, z') ∧ zYd z' b re ((a :: C).foldl (gstep Ba b x re) s') ∧ zHb ((a :: C).foldl (gstep Ba b x re) s') ∧ zYk b z z' := fun q => skip (by rw [gs2]; exact if_pos q)
              by_cases q1 : s'.1 t < s'.1 x + a.2.2
              · rw [if_pos ((zo_lt (by omega) (by omega)).mpr q1)]
                exact keep (Or.inl q1)
              · rw [if_neg (fun q => q1 ((zo_lt (by omega) (by omega)).mp q)), zkk t16 (by omega)]
                by_cases q2 : s'.1 x + a.2.2 = s'.1 t
                · rw [if_neg (fun q => q (by rw [q2])), zkk t16 (by omega), y3]
                  by_cases q3 : beg b x s'.2 t a.2.1 < s'.2 t
                  · rw [if_pos ((zom_lt (by omega) (by omega)).mpr q3)]
                    exact set (by omega)
                  · rw [if_neg (fun q => q3 ((zom_lt (by omega) (by omega)).mp q))]
                    exact keep (Or.inr ⟨q2.symm, by omega⟩)
                · rw [if_pos (fun q => q2 ((zo_eq (by omega) (by omega)).mp q))]
                  exact set (by omega)
            by_cases q : x = b
            · rw [if_neg (fun y => y (by rw [q]))]
              have eb : Int32.ofNat (beg b x s'.2 t a.2.1) - 1 = Int32.ofNat a.2.1 * (16 : Int32) + Int32.ofNat t := by
                unfold beg
                rw [if_pos q, zo_s1 (by omega), zn16 _ a2, zo_add, show 16 * a.2.1 + t + 1 - 1 = 16 * a.2.1 + t from by omega]
              rw [← eb]; exact tail
            · rw [if_pos (fun y => q ((zo_eq (by omega) (by omega)).mp y)), zkk hx (by omega), (hY x hx).2.2]
              have eb : beg b x s'.2 t a.2.1 = s'.2 x := if_neg q
              rw [eb] at tail; exact tail
          · have k3 : tellB Ba t x a.2.1 = false := by simpa using k3
            rw [if_neg (by rw [k3]; decide)]
            exact skip (by rw [gs, if_pos (Or.inr k3)])
  unfold fX0_goOnFrom
  exact loop (bE Ba x) [] N z s rfl (by have := hL.1; omega) hW hH rfl rfl (zYk_rf _ _)
