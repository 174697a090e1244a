/-! the model: a datagram is put, cut or not -/
theorem hold_cons (c : Nat) (X : List Nat) (ms : List (Option Nat)) (mw : Nat → List Nat) : hold (c :: X) ms mw = c :: hold X ms mw := rfl
theorem zMp_nodup {w : St} {H TS TA TB : List Nat} (h : zMp w H TS TA TB) : H.Nodup := h.1.1
/-- a copy for the model's hands -/
theorem zm_copyN {w : St} {T : Tp} {K : Int32 → Int32 → Int32 → Prop} {g : Sg} {X TS TA TB : List Nat} {d N : Nat} (hc : zTc T) (hX : X.length ≤ 100) (h : zNm w T K g X TS TA TB) (hd : d ∈ X) (hN : 18 < N) : ∃ w' c, fX19_copyOf N 0 (Int32.ofNat d) w = some (Int32.ofNat c, w') ∧ c < 2400 ∧ c ∉ X ∧ zNm w' T K g (c :: X) TS TA TB ∧ (∀ k, k < 18 → md w' c k = md w d k) ∧ zKm X w w' ∧ zFr 0x9100000000000000000000000000000000040000000000000000000000000000000000000000000000000000000000000000000000000000000000000000000000000000000000000000000000000000000000000000000000000000000000000000000000000000000000000000000000000000000000000000000000000000000000000000000000000000000000000000000000000000000000000000000000000000000000000000 w w' := by
  obtain ⟨ms, mw, h1, h2, h3⟩ := h
  obtain ⟨w', c, c1, c2, c3, c4, c5, c6, c7, c8, c9⟩ := zm_copyOf (N := N) h3 (hold_X d hd) (by have := hold_len hc hX h1 h2; omega) hN
  have f : zFr 0x9100000000000000000000000000000000040000000000000000000000000000000000000000000000000000000000000000000000000000000000000000000000000000000000000000000000000000000000000000000000000000000000000000000000000000000000000000000000000000000000000000000000000000000000000000000000000000000000000000000000000000000000000000000000000000000000000000 w w' := zFr_w (wX19_copyOf (Nat.and_self _) (zFr_rf _ _) _ _ c1) (by decide)
  have kk : zKm (hold X ms mw) w w' := ⟨fun e k he hk => c6 e k (fun y => c3 (by rw [← y]; exact he)) hk, fun k i => c7 174 k i (by simp) (by simp) (by simp), fun k i => c7 178 k i (by simp) (by simp) (by simp), c9⟩
  refine ⟨w', c, c1, c2, fun y => c3 (hold_X c y), ⟨ms, mw, ?_, ⟨fun q hq => ?_, h2.2⟩, c4⟩, c5, zKm_sub hold_X kk, f⟩
  · exact zFm_cg (fun k => c7 188 0 k (by simp) (by simp) (by simp)) (c8 19 23 0 (by simp)) (fun e D he => zKm_MD kk (hold_mem.mpr (Or.inr (Or.inl he)))) h1
  · exact zWqm_cg (c8 18 12 q (by simp)) (fun i => c7 170 q i (by simp) (by simp) (by simp)) (fun i => c7 171 q i (by simp) (by simp) (by simp)) (fun e D he => zKm_MD kk (hold_mem.mpr (Or.inr (Or.inr ⟨q, tv_192 hc hq, he⟩)))) (h2.1 q hq)
theorem md_set {w : St} {c k e j : Nat} {v : Int32} (hk : k < 18) (hj : j < 18) : md (zsA w 172 0 (18 * c + k) v) e j = if e = c ∧ j = k then v else md w e j := by
  unfold md
  rw [zA_if]
  by_cases h : e = c ∧ j = k
  · rw [if_pos (by omega), if_pos h]
  · rw [if_neg (by omega), if_neg h]
/-- a field of a datagram in the model's hands is set -/
theorem zm_setN {w : St} {T : Tp} {K : Int32 → Int32 → Int32 → Prop} {g : Sg} {X TS TA TB : List Nat} {c k : Nat} {v : Int32} (hc : zTc T) (h : zNm w T K g (c :: X) TS TA TB) (hk : k < 18) (h10 : k ≠ 10) (h11 : k ≠ 11) : zNm (zsA w 172 0 (18 * c + k) v) T K g (c :: X) TS TA TB ∧ zKm X w (zsA w 172 0 (18 * c + k) v) := by
  obtain ⟨ms, mw, h1, h2, h3⟩ := h
  have hnd : (c :: hold X ms mw).Nodup := h3.1.1
  have hcn : c ∉ hold X ms mw := (List.nodup_cons.mp hnd).1
  have a172 : ∀ k' o i, k' ≠ 172 → zgA (zsA w 172 0 (18 * c + k) v) k' o i = zgA w k' o i := fun k' o i n => by rw [zgA_sA, if_neg (fun y => n y.1)]
  have kk : zKm (hold X ms mw) w (zsA w 172 0 (18 * c + k) v) := ⟨fun e j he hj => by rw [md_set hk hj, if_neg (fun y => hcn (by rw [← y.1]; exact he))], fun k i => a172 174 k i (by simp), fun k i => a172 178 k i (by simp), fun _ _ _ => rfl⟩
  have e10 : ∀ e, md (zsA w 172 0 (18 * c + k) v) e 10 = md w e 10 := fun e => by rw [md_set hk (by omega), if_neg (fun y => h10 y.2.symm)]
  have e11 : ∀ e, md (zsA w 172 0 (18 * c + k) v) e 11 = md w e 11 := fun e => by rw [md_set hk (by omega), if_neg (fun y => h11 y.2.symm)]
  refine ⟨⟨ms, mw, zFm_cg (fun i => a172 188 0 i (by simp)) rfl (fun e D he => zKm_MD kk (hold_mem.mpr (Or.inr (Or.inl he)))) h1, ⟨fun q hq => zWqm_cg (w := w) rfl (fun i => a172 170 q i (by simp)) (fun i => a172 171 q i (by simp)) (fun e D he => zKm_MD kk (hold_mem.mpr (Or.inr (Or.inr ⟨q, tv_192 hc hq, he⟩)))) (h2.1 q hq), h2.2⟩, ?_⟩, zKm_sub hold_X kk⟩
  have g1 : mgs (zsA w 172 0 (18 * c + k) v) = mgs w := by funext e; unfold mgs; rw [e10]
  have g2 : mga (zsA w 172 0 (18 * c + k) v) = mga w := by funext e; unfold mga; rw [e11]
  have g3 : ∀ L, zbks (zsA w 172 0 (18 * c + k) v) L = zbks w L := fun L => zbks_cg (fun _ _ => Iff.rfl) (fun s _ _ => a172 174 0 _ (by simp))
  obtain ⟨p1, p2, p3, p4, p5, p6⟩ := h3
  unfold zMp
  rw [g1, g2, g3]
  refine ⟨?_, fun e he => by rw [e10, e11]; exact p2 e he, ?_, ?_, ?_, fun s hs => ?_⟩
  · have : (fun i => zgA (zsA w 172 0 (18 * c + k) v) 173 0 i) = (fun i => zgA w 173 0 i) := funext (fun i => a172 173 0 i (by simp))
    rw [this]; exact p1
  · have f1 : (fun i => zgA (zsA w 172 0 (18 * c + k) v) 176 0 i) = (fun i => zgA w 176 0 i) := funext (fun i => a172 176 0 i (by simp))
    have f2 : (fun i => zgA (zsA w 172 0 (18 * c + k) v) 177 0 i) = (fun i => zgA w 177 0 i) := funext (fun i => a172 177 0 i (by simp))
    rw [f1, f2]; exact p3
  · have f1 : (fun i => zgA (zsA w 172 0 (18 * c + k) v) 179 0 i) = (fun i => zgA w 179 0 i) := funext (fun i => a172 179 0 i (by simp))
    have f2 : (fun i => zgA (zsA w 172 0 (18 * c + k) v) 180 0 i) = (fun i => zgA w 180 0 i) := funext (fun i => a172 180 0 i (by simp))
    rw [f1, f2]; exact p4
  · have f1 : (fun i => zgA (zsA w 172 0 (18 * c + k) v) 183 0 i) = (fun i => zgA w 183 0 i) := funext (fun i => a172 183 0 i (by simp))
    have f2 : (fun i => zgA (zsA w 172 0 (18 * c + k) v) 185 0 i) = (fun i => zgA w 185 0 i) := funext (fun i => a172 185 0 i (by simp))
    rw [f1, f2]; exact p5
  · have : msg (zsA w 172 0 (18 * c + k) v) s 8 = msg w s 8 := a172 174 0 _ (by simp)
    rw [this]; exact p6 s hs
/-- a datagram goes out of the model's hands -/
theorem zm_dropN {w : St} {T : Tp} {K : Int32 → Int32 → Int32 → Prop} {g : Sg} {X TS TA TB : List Nat} {c N : Nat} (hc : zTc T) (h : zNm w T K g (c :: X) TS TA TB) : ∃ w', fX19_drop N 0 (Int32.ofNat c) w = some (0, w') ∧ zNm w' T K g X TS TA TB ∧ zKm (c :: X) w w' ∧ zFr mX19_drop w w' := by
  obtain ⟨ms, mw, h1, h2, h3⟩ := h
  rw [hold_cons] at h3
  obtain ⟨w', c1, c2, c3, c4, c5⟩ := zm_drop (N := N) h3
  have f : zFr mX19_drop w w' := wX19_drop (Nat.and_self _) (zFr_rf _ _) _ _ c1
  have kk : ∀ H, zKm H w w' := fun H => ⟨fun e j _ _ => c3 172 0 _ (by simp) (by simp) (by simp) (by simp) (by simp) (by simp) (by simp), fun k i => c3 174 k i (by simp) (by simp) (by simp) (by simp) (by simp) (by simp) (by simp), fun k i => c3 178 k i (by simp) (by simp) (by simp) (by simp) (by simp) (by simp) (by simp), c5⟩
  exact ⟨w', c1, ⟨ms, mw, zFm_cg (fun i => c3 188 0 i (by simp) (by simp) (by simp) (by simp) (by simp) (by simp) (by simp)) (c4 19 23 0 (by simp)) (fun e D he => zKm_MD (kk (hold X ms mw)) (hold_mem.mpr (Or.inr (Or.inl he)))) h1, ⟨fun q hq => zWqm_cg (c4 18 12 q (by simp)) (fun i => c3 170 q i (by simp) (by simp) (by simp) (by simp) (by simp) (by simp) (by simp)) (fun i => c3 171 q i (by simp) (by simp) (by simp) (by simp) (by simp) (by simp) (by simp)) (fun e D he => zKm_MD (kk (hold X ms mw)) (hold_mem.mpr (Or.inr (Or.inr ⟨q, tv_192 hc hq, he⟩)))) (h2.1 q hq), h2.2⟩, c2⟩, kk _, f⟩
theorem dCut_0 {D : Dg} (h : zDw D) (t n s : Int32) : ∀ j, j < 11 → (dCut D 0 (dl D) t n s).1 j = D.1 j := by
  intro j hj
  show (if j = 5 then Int32.ofNat (df D + 0) else if j = 6 then Int32.ofNat (dl D) else if j = 11 then t else if j = 12 then n else if j = 13 then s else D.1 j) = D.1 j
  by_cases h5 : j = 5
  · rw [if_pos h5, h5, Nat.add_zero]; exact h.2.1.symm
  rw [if_neg h5]
  by_cases h6 : j = 6
  · rw [if_pos h6, h6]; exact h.1.symm
  rw [if_neg h6, if_neg (by omega), if_neg (by omega), if_neg (by omega)]
theorem zm_carry54 {T : Tp} {E : Ev} {K : Int32 → Int32 → Int32 → Prop} {X TS TA TB : List Nat} {q d sz N : Nat} {to : Int32} {D : Dg} (hc : zTc T) (hw : zEw T E) (hq : tv T q) (hd : d ∈ X) (hX : X.length < 100) (hDw : zDw D) (hk : ¬ D.1 2 = 5 ∧ ¬ D.1 2 = 6) (h8 : 8 ≤ sz) (hs : sz < dl D) (hN : 64 < N) :
    ∀ (m a k n : Nat) (w : St) (g : Sg), dl D - a ≤ m → m ≤ k → m < n → a < 4000 → zTM w T → zEm w T E → zMd w T K g X TS TA TB → zMD w T K d D →
    ∃ w', fX19_carry_54 N n 0 q to (Int32.ofNat d) (Int32.ofNat sz) (Int32.ofNat (dl D)) (Int32.ofNat a) w = some (0, w') ∧ zMd w' T K (nCut E (tw T q) q to D sz k a g) X TS TA TB ∧ zKm X w w' := by
  have hdl : dl D ≤ 1480 := by have := hDw.2.2.2.1; have := hDw.2.2.2.2.1; omega
  have hdw := hDw.2.2.2.2.1
  have hfl := hDw.2.2.2.1
  have hob := (hc.2.2.2.2.2.1 _ hq).1
  intro m
  induction m with
  | zero =>
    intro a k n w g hm hk' hn ha hT hE hg hD
    obtain ⟨n, rfl⟩ : ∃ n', n = n' + 1 := ⟨n - 1, by omega⟩
    refine ⟨w, ?_, ?_, zKm_rf X w⟩
    · show fX19_carry_54b N (fX19_carry_54 N n) 0 q to (Int32.ofNat d) (Int32.ofNat sz) (Int32.ofNat (dl D)) (Int32.ofNat a) w = _
      unfold fX19_carry_54b
      rw [if_pos (by rw [zo_le (by omega) (by omega)]; omega)]
    · cases k with
      | zero => exact hg
      | succ k => unfold nCut; rw [if_pos (by omega)]; exact hg
  | succ m ih =>
    intro a k n w g hm hk' hn ha hT hE hg hD
    obtain ⟨n, rfl⟩ : ∃ n', n = n' + 1 := ⟨n - 1, by omega⟩
    obtain ⟨k, rfl⟩ : ∃ k', k = k' + 1 := ⟨k - 1, by omega⟩
    have hl : fX19_carry_54 N (n + 1) 0 q to (Int32.ofNat d) (Int32.ofNat sz) (Int32.ofNat (dl D)) (Int32.ofNat a) w = fX19_carry_54b N (fX19_carry_54 N n) 0 q to (Int32.ofNat d) (Int32.ofNat sz) (Int32.ofNat (dl D)) (Int32.ofNat a) w := rfl
    rw [hl]
    unfold fX19_carry_54b nCut
    by_cases c : dl D ≤ a
    · rw [if_pos (by rw [zo_le (by omega) (by omega)]; exact c), if_pos c]
      exact ⟨w, rfl, hg, zKm_rf X w⟩
    rw [if_neg (by rw [zo_le (by omega) (by omega)]; exact c), if_neg c]
    obtain ⟨w1, e, c1, c2, c3, c4, c5, c6, c7⟩ := zm_copyN (N := N) hc (by omega) hg.2.2 hd (by omega)
    have hde : d ≠ e := fun y => c3 (by rw [← y]; exact hd)
    have hd24 := hD.1.1
    obtain ⟨b0, b1, b2, b3, b4, b5⟩ := hD.1
    obtain ⟨y1, y2, y3, y4, y5, y6⟩ := hD.2.1
    have y2' : md w d 6 = Int32.ofNat (df D) := y2.trans hDw.2.1
    let b := min sz (dl D - a)
    let w2 : St := zsA w1 172 0 (18 * e + 6) (Int32.ofNat (df D + a))
    let w3 : St := zsA w2 172 0 (18 * e + 5) (Int32.ofNat b)
    let w4 : St := zsA w3 172 0 (18 * e + 7) (zbi (decide (df D + a + b < dw D)))
    let w5 : St := zsA w4 172 0 (18 * e + 8) 1
    have n2 := zm_setN (k := 6) (v := Int32.ofNat (df D + a)) hc c4 (by omega) (by omega) (by omega)
    have n3 := zm_setN (k := 5) (v := Int32.ofNat b) hc n2.1 (by omega) (by omega) (by omega)
    have n4 := zm_setN (k := 7) (v := zbi (decide (df D + a + b < dw D))) hc n3.1 (by omega) (by omega) (by omega)
    have n5 := zm_setN (k := 8) (v := 1) hc n4.1 (by omega) (by omega) (by omega)
    have k5 : zKm X w w5 := zKm_tr c6 (zKm_tr n2.2 (zKm_tr n3.2 (zKm_tr n4.2 n5.2)))
    have f5 : zFr 0x9100000000000000000000000000000000040000000000000000000000000000000000000000000000000000000000000000000000000000000000000000000000000000000000000000000000000000000000000000000000000000000000000000000000000000000000000000000000000000000000000000000000000000000000000000000000000000000000000000000000000000000000000000000000000000000000000000 w w5 := zFr_A (zFr_A (zFr_A (zFr_A c7 (by decide)) (by decide)) (by decide)) (by decide)
    have md6 : md w1 d 6 = Int32.ofNat (df D) := (c6.1 d 6 hd (by omega)).trans y2'
    have md7 : ∀ w', (∀ j, j < 18 → md w' d j = md w1 d j) → md w' d 7 = zbi (decide (df D + dl D < dw D)) := fun w' h => (h 7 (by omega)).trans ((c6.1 d 7 hd (by omega)).trans y3)
    have m5e : ∀ j, j < 18 → md w5 e j = if j = 8 then 1 else if j = 7 then zbi (decide (df D + a + b < dw D)) else if j = 5 then Int32.ofNat b else if j = 6 then Int32.ofNat (df D + a) else md w d j := by
      intro j hj
      show md (zsA (zsA (zsA (zsA w1 172 0 (18 * e + 6) _) 172 0 (18 * e + 5) _) 172 0 (18 * e + 7) _) 172 0 (18 * e + 8) _) e j = _
      rw [md_set (by omega) hj, md_set (by omega) hj, md_set (by omega) hj, md_set (by omega) hj, c5 j hj]
      simp only [true_and]
    have hbl : b ≤ dl D - a := Nat.min_le_right _ _
    have hb1 : 1 ≤ b := by show 1 ≤ min sz (dl D - a); omega
    have hbs : b ≤ sz := Nat.min_le_left _ _
    let D' := nQ q D to a b
    have el : dl D' = b := dCut_l (by omega)
    have ef : df D' = df D + a := dCut_f (by omega)
    have ew : dw D' = dw D := dCut_w
    have hMD' : zMD w5 T K e D' := by
      have j5 : ∀ j, j < 11 → j ≠ 5 → j ≠ 6 → D'.1 j = D.1 j := by
        intro j hj h5 h6
        show (if j = 5 then _ else if j = 6 then _ else if j = 11 then _ else if j = 12 then _ else if j = 13 then _ else D.1 j) = D.1 j
        rw [if_neg h5, if_neg h6, if_neg (by omega), if_neg (by omega), if_neg (by omega)]
      refine ⟨⟨c2, ?_, ?_, ?_, ?_, ?_⟩, ⟨?_, ?_, ?_, ?_, ?_, by rw [ew]; exact hdw⟩, zMY_cg (w := w) (d := d) (fun j h1 h2 => ?_) (fun s _ _ => ⟨fun j _ => k5.2.1 0 _, fun i _ => k5.2.2.2 175 0 _⟩) (fun s _ _ j _ => k5.2.2.1 0 _) rfl (j5 2 (by omega) (by omega) (by omega)) (j5 0 (by omega) (by omega) (by omega)) (j5 9 (by omega) (by omega) (by omega)) ew hdw hD.2.2⟩
      · rw [m5e 0 (by omega), j5 0 (by omega) (by omega) (by omega)]; simpa using b1
      · rw [m5e 1 (by omega), j5 1 (by omega) (by omega) (by omega)]; simpa using b2
      · rw [m5e 2 (by omega), j5 2 (by omega) (by omega) (by omega)]; simpa using b3
      · rw [m5e 3 (by omega), j5 3 (by omega) (by omega) (by omega)]; simpa using b4
      · rw [m5e 4 (by omega), j5 4 (by omega) (by omega) (by omega)]; simpa using b5
      · rw [m5e 5 (by omega)]; rfl
      · rw [m5e 6 (by omega)]; rfl
      · rw [m5e 7 (by omega), el, ef, ew]; rfl
      · rw [m5e 8 (by omega), if_pos rfl, el, ew, decide_eq_true (by omega)]; rfl
      · rw [m5e 9 (by omega), j5 10 (by omega) (by omega) (by omega)]; simpa using y5
      · rw [m5e j h2, if_neg (by omega), if_neg (by omega), if_neg (by omega), if_neg (by omega)]
    -- the run up to the put
    have run : (zc (fX19_copyOf N 0 (Int32.ofNat d) w) fun r2 z3 => zc (fX19_of N 0 (Int32.ofNat d) (6 : Int32) z3) fun r6 z7 => zc (fX19_set N 0 r2 (6 : Int32) (r6 + Int32.ofNat a) z7) fun _ z11 => if (Int32.ofNat (dl D) - Int32.ofNat a) ≤ Int32.ofNat sz then (fX19_carry_110 N (fX19_carry_54 N n) 0 q to (Int32.ofNat d) (Int32.ofNat sz) (Int32.ofNat (dl D)) (Int32.ofNat a) r2 0 r2 (5 : Int32) (Int32.ofNat (dl D) - Int32.ofNat a) z11) else (fX19_carry_110 N (fX19_carry_54 N n) 0 q to (Int32.ofNat d) (Int32.ofNat sz) (Int32.ofNat (dl D)) (Int32.ofNat a) r2 0 r2 (5 : Int32) (Int32.ofNat sz) z11)) = (zl (zgR w5 18 0 q) fun y9 => zd y9 fun a10 => zl (zsI w5 12 7 a10 ((zgI w5 12 7 a10) + (1 : Int32))) fun z11 => zc (fX19_put N 0 q to (2 : Int32) (0 : Int32) (Int32.ofNat e) z11) fun _ z13 => zc (fX19_drop N 0 (Int32.ofNat e) z13) fun _ z17 => zl (Int32.ofNat a + Int32.ofNat sz) fun v20 => fX19_carry_54 N n 0 q to (Int32.ofNat d) (Int32.ofNat sz) (Int32.ofNat (dl D)) v20 z17) := by
      rw [c1, zc_e, show (6 : Int32) = Int32.ofNat 6 from rfl, zm_of hd24 (by omega), zc_e, md6, zo_add, zm_set c2 (by omega), zc_e]
      have hif : (if (Int32.ofNat (dl D) - Int32.ofNat a) ≤ Int32.ofNat sz then (fX19_carry_110 N (fX19_carry_54 N n) 0 q to (Int32.ofNat d) (Int32.ofNat sz) (Int32.ofNat (dl D)) (Int32.ofNat a) (Int32.ofNat e) 0 (Int32.ofNat e) (5 : Int32) (Int32.ofNat (dl D) - Int32.ofNat a) w2) else (fX19_carry_110 N (fX19_carry_54 N n) 0 q to (Int32.ofNat d) (Int32.ofNat sz) (Int32.ofNat (dl D)) (Int32.ofNat a) (Int32.ofNat e) 0 (Int32.ofNat e) (5 : Int32) (Int32.ofNat sz) w2)) = fX19_carry_110 N (fX19_carry_54 N n) 0 q to (Int32.ofNat d) (Int32.ofNat sz) (Int32.ofNat (dl D)) (Int32.ofNat a) (Int32.ofNat e) 0 (Int32.ofNat e) (5 : Int32) (Int32.ofNat b) w2 := by
        rw [zo_sub (by omega)]
        by_cases q1 : dl D - a ≤ sz
        · rw [if_pos (by rw [zo_le (by omega) (by omega)]; exact q1)]
          rw [show b = dl D - a from Nat.min_eq_right q1]
        · rw [if_neg (by rw [zo_le (by omega) (by omega)]; exact q1)]
          rw [show b = sz from Nat.min_eq_left (by omega)]
      refine Eq.trans hif ?_
      unfold fX19_carry_110 fX19_carry_139 fX19_carry_144
      rw [show (5 : Int32) = Int32.ofNat 5 from rfl, zm_set c2 (by omega), zc_e, show (7 : Int32) = Int32.ofNat 7 from rfl, zm_of hd24 (by omega), zc_e]
      have m37 : md (zsA w2 172 0 (18 * e + 5) (Int32.ofNat b)) d 7 = zbi (decide (df D + dl D < dw D)) := md7 _ (fun j hj => by
        show md (zsA (zsA w1 172 0 (18 * e + 6) _) 172 0 (18 * e + 5) _) d j = _
        rw [md_set (by omega) hj, if_neg (fun y => hde y.1), md_set (by omega) hj, if_neg (fun y => hde y.1)])
      rw [m37]
      have tail : ∀ v, v = zbi (decide (df D + a + b < dw D)) → (zc (fX19_set N 0 (Int32.ofNat e) (Int32.ofNat 7) v (zsA w2 172 0 (18 * e + 5) (Int32.ofNat b))) fun _ z2 => zc (fX19_set N 0 (Int32.ofNat e) (8 : Int32) (1 : Int32) z2) fun _ z6 => zl (zgR z6 18 0 q) fun y9 => zd y9 fun a10 => zl (zsI z6 12 7 a10 ((zgI z6 12 7 a10) + (1 : Int32))) fun z11 => zc (fX19_put N 0 q to (2 : Int32) (0 : Int32) (Int32.ofNat e) z11) fun _ z13 => zc (fX19_drop N 0 (Int32.ofNat e) z13) fun _ z17 => zl (Int32.ofNat a + Int32.ofNat sz) fun v20 => fX19_carry_54 N n 0 q to (Int32.ofNat d) (Int32.ofNat sz) (Int32.ofNat (dl D)) v20 z17) = (zl (zgR w5 18 0 q) fun y9 => zd y9 fun a10 => zl (zsI w5 12 7 a10 ((zgI w5 12 7 a10) + (1 : Int32))) fun z11 => zc (fX19_put N 0 q to (2 : Int32) (0 : Int32) (Int32.ofNat e) z11) fun _ z13 => zc (fX19_drop N 0 (Int32.ofNat e) z13) fun _ z17 => zl (Int32.ofNat a + Int32.ofNat sz) fun v20 => fX19_carry_54 N n 0 q to (Int32.ofNat d) (Int32.ofNat sz) (Int32.ofNat (dl D)) v20 z17) := by
        intro v hv
        subst hv
        rw [zm_set c2 (by omega), zc_e, show (8 : Int32) = Int32.ofNat 8 from rfl, zm_set c2 (by omega), zc_e]
      by_cases q1 : df D + dl D < dw D
      · rw [decide_eq_true q1, if_pos (by rfl)]
        exact tail 1 (by rw [decide_eq_true (by omega)]; rfl)
      · rw [decide_eq_false q1, if_neg (by decide)]
        by_cases q2 : dl D ≤ a + sz
        · rw [if_pos (by rw [zo_add, zo_le (by omega) (by omega)]; exact q2)]
          refine tail 0 ?_
          have : b = dl D - a := Nat.min_eq_right (by omega)
          rw [decide_eq_false (by omega)]; rfl
        · rw [if_neg (by rw [zo_add, zo_le (by omega) (by omega)]; exact q2)]
          refine tail 1 ?_
          have : b = sz := Nat.min_eq_left (by omega)
          rw [decide_eq_true (by omega)]; rfl
    rw [run]
    obtain ⟨t0, t2, t1, t3⟩ := hT.2.2.2 _ hq
    have t0' : zgR w5 18 0 q = some (tw T q) := (zFr_gR f5 (by decide) (by decide) q).trans t0
    have e7 : zgI w5 12 7 (tw T q) = gC g (tw T q) := (zFr_gI f5 (by decide) (by decide) _).trans (hg.2.1.2.1 _ hob)
    rw [zl_e, t0', zd_e, zl_e, e7]
    have f6 : zFr 0x80000000000000000000000000000000000000000000000000000000000000000000000000000000000000000000000000000000000000000000000000000000000000000000000000000000000000000000000000000000000000000000000000 w5 (zsI w5 12 7 (tw T q) (gC g (tw T q) + 1)) := zFr_I (zFr_rf _ _) (by decide)
    have f56 : zFr 0x9100000000000000000000000000000000040000000000000000000000000000000000000000000000000000000000000000000000000000000000000000000000000000000000000080000000000000000000000000000000000000000000000000000000000000000000000000000000000000000000000000000000000000000000000000000000000000000000000000000000000000000000000000000000000000000000000000 w (zsI w5 12 7 (tw T q) (gC g (tw T q) + 1)) := zFr_tr (zFr_w f5 (by decide)) (zFr_w f6 (by decide))
    have d6 : zMd (zsI w5 12 7 (tw T q) (gC g (tw T q) + 1)) T K (sC g (zupd (gC g) (tw T q) (gC g (tw T q) + 1))) (e :: X) TS TA TB := by
      refine ⟨zTm_fr f56 (by decide) hg.1, ⟨fun n hn => ?_, fun b' hb => ?_, ?_⟩, zNm_fr f6 (by decide) hc (fun _ _ _ => rfl) n5.1⟩
      · rw [zFr_gI f56 (by decide) (by decide)]; exact hg.2.1.1 n hn
      · show zgI (zsI w5 12 7 (tw T q) (gC g (tw T q) + 1)) 12 7 b' = zupd (gC g) (tw T q) (gC g (tw T q) + 1) b'
        rw [zgI_sI]
        unfold zupd
        by_cases y : b' = tw T q
        · rw [if_pos ⟨rfl, rfl, y⟩, if_pos y]
        · rw [if_neg (fun z => y z.2.2), if_neg y, zFr_gI f5 (by decide) (by decide)]
          exact hg.2.1.2.1 b' hb
      · rw [zFr_gI f56 (by decide) (by decide)]; exact hg.2.1.2.2
    have k6 : ∀ H, zKm H w5 (zsI w5 12 7 (tw T q) (gC g (tw T q) + 1)) := fun H => zKm_fr f6 (by decide) (fun _ _ _ => rfl)
    have T6 := zTM_fr f56 (by decide) hT
    have E6 := zEm_fr f56 (by decide) hE
    obtain ⟨w7, p1, p2, p3⟩ := zm_put (N := N) (D := D') (to := to) (kind := 2) (addr := 0) (dv := Int32.ofNat e) T6 hc E6 hw hq (by simp only [List.length_cons]; omega) d6 rfl rfl rfl (Or.inr (Or.inr ⟨hk.1, hk.2, rfl, rfl, e, List.mem_cons_self, rfl, zKm_MD (H := [e]) (k6 _) List.mem_cons_self hMD'⟩)) hN
    have f7 : zFr mX19_put _ w7 := wX19_put (Nat.and_self _) (zFr_rf _ _) _ _ p1
    rw [p1, zc_e]
    obtain ⟨w8, r1, r2, r3, r4⟩ := zm_dropN (N := N) hc p2.2.2
    rw [r1, zc_e, zl_e, zo_add]
    have f78 := zFr_tr (zFr_w f7 (by decide) : zFr (mX19_put ||| mX19_drop) _ _) (zFr_w r4 (by decide))
    have k8 : zKm X w w8 := zKm_tr k5 (zKm_tr (k6 X) (zKm_tr (zKm_sub (fun _ h => List.mem_cons_of_mem _ h) p3) (zKm_sub (fun _ h => List.mem_cons_of_mem _ h) r3)))
    obtain ⟨w9, s1, s2, s3⟩ := ih (a + sz) k n w8 (nPut E (sC g (zupd (gC g) (tw T q) (gC g (tw T q) + 1))) q D') (by omega) (by omega) (by omega) (by omega) (zTM_fr f78 (by decide) T6) (zEm_fr f78 (by decide) E6) ⟨zTm_fr r4 (by decide) p2.1, zCm_fr r4 (by decide) p2.2.1, r2⟩ (zKm_MD k8 hd hD)
    exact ⟨w9, s1, s2, zKm_tr k8 s3⟩
theorem zm_carry {w : St} {T : Tp} {E : Ev} {K : Int32 → Int32 → Int32 → Prop} {g : Sg} {X TS TA TB : List Nat} {q d N : Nat} {to : Int32} {D : Dg} (hT : zTM w T) (hc : zTc T) (hE : zEm w T E) (hw : zEw T E) (hq : tv T q) (hd : d ∈ X) (hX : X.length < 100) (hDw : zDw D) (hk : ¬ D.1 2 = 5 ∧ ¬ D.1 2 = 6) (h : zMd w T K g X TS TA TB) (hD : zMD w T K d D) (hN : 1481 < N) :
    ∃ w', fX19_carry N 0 q to (Int32.ofNat d) w = some (0, w') ∧ zMd w' T K (nCarry E (tw T q) g q to D) X TS TA TB ∧ zKm X w w' := by
  have hdl : dl D ≤ 1480 := by have := hDw.2.2.2.1; have := hDw.2.2.2.2.1; omega
  have hl := hw.2 _ hq.1
  obtain ⟨t0, t2, t1, t3⟩ := hT.2.2.2 _ hq
  have e5 : md w d 5 = Int32.ofNat (dl D) := hD.2.1.1.trans hDw.1
  unfold fX19_carry nCarry
  rw [zl_e, t2, zd_e, (hE.2 _ hq.1).1, show (20 : Int32) = Int32.ofNat 20 from rfl, zo_sub (by omega), zl_e, show (5 : Int32) = Int32.ofNat 5 from rfl, zm_of hD.1.1 (by omega), zc_e, e5]
  by_cases c : dl D ≤ eL E (q / 8) - 20
  · rw [if_neg (by rw [zo_lt (by omega) (by omega)]; omega), if_pos c]
    have hMD' : zMD w T K d (nQ q D to 0 (dl D)) := zMD_cg (w := w) (d := d) (D := D) hD.1.1 (fun _ _ => rfl) (fun _ _ => rfl) (fun _ _ => rfl) (fun _ _ => rfl) rfl (dCut_0 hDw _ _ _) hD
    obtain ⟨w', p1, p2, p3⟩ := zm_put (N := N) (D := nQ q D to 0 (dl D)) (to := to) (kind := 2) (addr := 0) (dv := Int32.ofNat d) hT hc hE hw hq (by omega) h rfl rfl rfl (Or.inr (Or.inr ⟨hk.1, hk.2, rfl, rfl, d, hd, rfl, hMD'⟩)) (by omega)
    rw [p1, zc_e]
    exact ⟨w', rfl, p2, p3⟩
  · rw [if_pos (by rw [zo_lt (by omega) (by omega)]; omega), if_neg c, zsz8 _ (by omega), zl_e, zm_of hD.1.1 (by omega), zc_e, e5]
    exact zm_carry54 (N := N) hc hw hq hd hX hDw hk (by omega) (by omega) (by omega) 1480 0 1480 N w g (by omega) (by omega) (by omega) (by omega) hT hE h hD
