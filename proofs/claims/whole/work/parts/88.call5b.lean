/-! fates(): call 5 on related states -/
theorem zle64 {f k : Nat} (hf : f ≤ 64) (hk : k ≤ 32) : (Int32.ofNat f + Int32.ofNat k ≤ (64 : Int32)) ↔ f + k ≤ 64 := by
  have h : ∀ f, f < 65 → ∀ k, k < 33 → ((Int32.ofNat f + Int32.ofNat k ≤ (64 : Int32)) ↔ f + k ≤ 64) := by decide +kernel
  exact h f (by omega) k (by omega)
theorem z1to32 {x : Int32} (h1 : ¬ x < 1) (h2 : x ≤ 32) : ∃ k, 1 ≤ k ∧ k ≤ 32 ∧ x = Int32.ofNat k := by
  have g1 := Int32.le_iff_toInt_le.mp (Int32.not_lt.mp h1)
  have g2 := Int32.le_iff_toInt_le.mp h2
  have a1 : (1 : Int32).toInt = 1 := rfl
  have a2 : (32 : Int32).toInt = 32 := rfl
  refine ⟨x.toInt.toNat, by omega, by omega, ?_⟩
  apply Int32.toInt_inj.mp
  rw [Int32.toInt_ofNat_of_lt (by omega)]
  omega
theorem zw_5 {z : St} {nb nn : Nat} (hz : zRcnt z nb nn) (hf : ∀ n, n < nn → ∃ a f, zRfat z n a f) (N : Nat) (hN : 64 < N) (sc : Nat → Int32) (I : List (Nat × Nat)) (cc ss : Nat) (hr : (cc + rmL_fates.cells) ≤ room_1.cells ∧ (ss + rmL_fates.slots) ≤ room_1.slots) :
    (∃ c, (c = 1 ∨ c = 2) ∧ fLaw_5 N sc I cc ss z = some (zsI z 19 25 0 (Int32.ofNat c), I, cc + rmL_fates.cells, ss + rmL_fates.slots)) ∨
    ∃ n a f k x, n < nn ∧ zRfat z n a f ∧ f + k ≤ 64 ∧ fLaw_5 N sc I cc ss z = some (zfm (zsI (zsL (zfc z n (zfgc x a k 0 f (zgA z 122 n)) (f + k)) 193 0 0 (Int32.ofNat (f + k)).toInt64) 19 25 0 0) n (zfgm x k 0 f (zgA z 165 n)) (f + k), I, cc + rmL_fates.cells, ss + rmL_fates.slots) := by
  rcases zcase hz.2.1 (sc 1) with c | ⟨n, hn, en⟩
  · obtain ⟨g1, g2⟩ := zw_net0 hz N c
    refine Or.inl ⟨1, Or.inl rfl, zw_5t hr (c := 1) (r := 0) (Or.inl rfl) (fun x => ?_) (fun x => ?_)⟩
    · unfold fX11_fates
      rw [g1, zc_e]
      rfl
    · unfold fX19_fates
      rw [g2, zc_e, if_pos rfl]
      unfold fX19_fates_22 fX19_fates_27
      rw [g2, zc_e, if_pos rfl]
      unfold fX19_fates_56 fX19_fates_57
      rw [zfails_1, zc_e, if_neg (by decide)]
      rfl
  · obtain ⟨a, f, hF⟩ := hf n hn
    have hF0 := hF
    obtain ⟨ha, hf64, h5, h6, h7, hring⟩ := hF
    have hn24 : n < 24 := Nat.lt_of_lt_of_le hn hz.2.1
    obtain ⟨g1, g2⟩ := zw_net1 hz N hn
    have en2 : (Int32.ofNat n).toNatClampNeg = n := Int32.toNatClampNeg_ofNat_of_lt (by omega)
    have q3 := hz.2.2.2.2.2.2.2.2 n hn
    have bad : (sc 4 < 1 ∨ ¬ sc 4 ≤ 32) → fLaw_5 N sc I cc ss z = some (zsI z 19 25 0 (Int32.ofNat 1), I, cc + rmL_fates.cells, ss + rmL_fates.slots) := by
      intro c
      have r22 : ∀ x, fX19_fates_22 N 0 (sc 1) x (sc 4) 0 z = some ((0 : Int32), zsI z 19 25 0 (Int32.ofNat 1)) := fun x => by
        have r57 : ∀ s2, fX19_fates_57 N 0 (sc 1) x (sc 4) 0 (1 : Int32) s2 z = some ((0 : Int32), zsI z 19 25 0 (Int32.ofNat 1)) := fun s2 => by
          unfold fX19_fates_57
          rw [zfails_1, zc_e, if_neg (by decide)]
          rfl
        unfold fX19_fates_22 fX19_fates_27
        rw [en, g2, zc_e, if_neg (by decide), zck hn24 (by decide), en2, q3]
        simp only [zl, zd]
        rw [← en]
        split
        · exact r57 0
        · exact r57 1
      refine zw_5t hr (c := 1) (r := 0) (Or.inl rfl) (fun x => ?_) (fun x => ?_)
      · unfold fX11_fates
        rw [en, g1, zc_e]
        show (if sc 4 < (1 : Int32) then (fX11_fates_35 N z) else (if sc 4 ≤ (32 : Int32) then _ else (fX11_fates_35 N z))) = _
        rcases c with c | c
        · rw [if_pos c]; rfl
        · by_cases c1 : sc 4 < 1
          · rw [if_pos c1]; rfl
          · rw [if_neg c1, if_neg c]; rfl
      · unfold fX19_fates
        rw [en, g2, zc_e, if_neg (by decide), ← en]
        rcases c with c | c
        · rw [if_pos c]; exact r22 x
        · by_cases c1 : sc 4 < 1
          · rw [if_pos c1]; exact r22 x
          · rw [if_neg c1, if_neg c]; exact r22 x
    by_cases c1 : sc 4 < 1
    · exact Or.inl ⟨1, Or.inl rfl, bad (Or.inl c1)⟩
    by_cases c2 : sc 4 ≤ 32
    · obtain ⟨k, hk1, hk, ek⟩ := z1to32 c1 c2
      have c3i := zle64 hf64 hk
      by_cases c3 : f + k ≤ 64
      · refine Or.inr ⟨n, a, f, k, ?_⟩
        have e1 : ∀ x, fX11_fates N 0 (sc 1) x (sc 4) z = some (.inl (Int32.ofNat (f + k)), zfc z n (zfgc x a k 0 f (zgA z 122 n)) (f + k)) := fun x => by
          have h := zfc_loop z n a x N ha h5 k 0 f N (zgA z 122 n) (by omega) (by omega) c3
          rw [zfc_start h6, Nat.zero_add] at h
          unfold fX11_fates
          rw [en, g1, zc_e]
          show (if sc 4 < (1 : Int32) then (fX11_fates_35 N z) else (if sc 4 ≤ (32 : Int32) then (if ((zgI z 5 6 n) + sc 4) ≤ (64 : Int32) then (fX11_fates_71 N N x (sc 4) n (0 : Int32) z) else (some (.inr 2, z))) else (fX11_fates_35 N z))) = _
          rw [if_neg c1, if_pos c2, h6, ek, if_pos (c3i.mpr c3)]
          exact h
        have e2 : ∀ x, fX19_fates N 0 (sc 1) x (sc 4) (zsL (zfc z n (zfgc x a k 0 f (zgA z 122 n)) (f + k)) 193 0 0 (Int32.ofNat (f + k)).toInt64) = some (Int32.ofNat (f + k), zfm (zsI (zsL (zfc z n (zfgc x a k 0 f (zgA z 122 n)) (f + k)) 193 0 0 (Int32.ofNat (f + k)).toInt64) 19 25 0 0) n (zfgm x k 0 f (zgA z 165 n)) (f + k)) := fun x => by
          obtain ⟨w, ew⟩ : ∃ w, w = zsL (zfc z n (zfgc x a k 0 f (zgA z 122 n)) (f + k)) 193 0 0 (Int32.ofNat (f + k)).toInt64 := ⟨_, rfl⟩
          have hw : zRcnt w nb nn := by
            rw [ew]
            unfold zRcnt zfc
            simp only [zgI_sL, zgI_sI, zgI_sC, zgQ_sL, zgQ_sI, zgQ_sC]
            exact hz
          have w7 : zgI w 16 7 n = Int32.ofNat f := by rw [ew]; simp [zfc, zgI_sL, zgI_sI, zgI_sC, h7]
          have wq : zgQ w 187 0 n = some n := by rw [ew]; simp [zfc, zgQ_sL, zgQ_sI, zgQ_sC, q3]
          have wa : zgA (zsI w 19 25 0 0) 165 n = zgA z 165 n := by
            funext i
            rw [ew]; simp [zfc, zgA_sL, zgA_sI, zgA_sC]
          have w7' : zgI (zsI w 19 25 0 0) 16 7 n = Int32.ofNat f := by rw [zgI_sI]; simp [w7]
          have h := zfm_loop (zsI w 19 25 0 0) n x N k 0 f N (zgA (zsI w 19 25 0 0) 165 n) (by omega) (by omega) c3
          rw [zfm_start w7', Nat.zero_add, wa] at h
          rw [← ew]
          have g3 := (zw_net1 hw N hn).2
          unfold fX19_fates
          rw [en, g3, zc_e, if_neg (by decide), if_neg c1, if_pos c2]
          unfold fX19_fates_27
          rw [g3, zc_e, if_neg (by decide), zck hn24 (by decide), en2, wq]
          simp only [zl, zd]
          rw [w7, ek, if_pos (c3i.mpr c3)]
          unfold fX19_fates_56 fX19_fates_57
          rw [zfails_0, zc_e, if_pos rfl, zck hn24 (by decide), en2]
          simp only [zl]
          rw [zgQ_sI, wq]
          exact h
        obtain ⟨x, hx⟩ := zw_5s hr (fun x => zfc z n (zfgc x a k 0 f (zgA z 122 n)) (f + k)) (fun x => zfm (zsI (zsL (zfc z n (zfgc x a k 0 f (zgA z 122 n)) (f + k)) 193 0 0 (Int32.ofNat (f + k)).toInt64) 19 25 0 0) n (zfgm x k 0 f (zgA z 165 n)) (f + k)) e1 e2 (fun x => ⟨by simp [zfm, zgI_sI, zgI_sC], by simp [zfm, zgL_sI, zgL_sC, zgL_sL]⟩)
        exact ⟨x, hn, hF0, c3, hx⟩
      · refine Or.inl ⟨2, Or.inr rfl, zw_5t hr (c := 2) (r := 0) (Or.inr rfl) (fun x => ?_) (fun x => ?_)⟩
        · unfold fX11_fates
          rw [en, g1, zc_e]
          show (if sc 4 < (1 : Int32) then (fX11_fates_35 N z) else (if sc 4 ≤ (32 : Int32) then (if ((zgI z 5 6 n) + sc 4) ≤ (64 : Int32) then (fX11_fates_71 N N x (sc 4) n (0 : Int32) z) else (some (.inr 2, z))) else (fX11_fates_35 N z))) = _
          rw [if_neg c1, if_pos c2, h6, ek, if_neg (fun c => c3 (c3i.mp c))]
        · unfold fX19_fates
          rw [en, g2, zc_e, if_neg (by decide), if_neg c1, if_pos c2]
          unfold fX19_fates_27
          rw [g2, zc_e, if_neg (by decide), zck hn24 (by decide), en2, q3]
          simp only [zl, zd]
          rw [h7, ek, if_neg (fun c => c3 (c3i.mp c))]
          unfold fX19_fates_57
          rw [zfails_2, zc_e, if_neg (by decide)]
          rfl
    · exact Or.inl ⟨1, Or.inl rfl, bad (Or.inr c2)⟩
