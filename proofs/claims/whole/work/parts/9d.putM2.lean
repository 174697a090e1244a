/-! the model: a frame is put, its fate taken -/
theorem zk_0 {n : Nat} (h : 0 < n) (hn : n < 2147483648) {β : Type} (k : Option β) : zk (0 : Int32) n k = k := zkk (i := 0) h hn k
theorem zKm_len {H : List Nat} {w w' : St} {T : Tp} {K : Int32 → Int32 → Int32 → Prop} {X : List Nat} {kind addr dv : Int32} {D : Dg} (k : zKm H w w') (hs : ∀ d, d ∈ X → d ∈ H) (h : zPm w T K X kind addr dv D) : zPm w' T K X kind addr dv D := by
  rcases h with h | h | ⟨h1, h2, h3, h4, d, h5, h6, h7⟩
  · exact Or.inl h
  · exact Or.inr (Or.inl h)
  · exact Or.inr (Or.inr ⟨h1, h2, h3, h4, d, h5, h6, zKm_MD k (hs d h5) h7⟩)
theorem hold_X {X : List Nat} {ms : List (Option Nat)} {mw : Nat → List Nat} : ∀ d, d ∈ X → d ∈ hold X ms mw := fun _ hd => hold_mem.mpr (Or.inl hd)
/-- what a put keeps and what it makes, in the model -/
def zMd (w : St) (T : Tp) (K : Int32 → Int32 → Int32 → Prop) (g : Sg) (X TS TA TB : List Nat) : Prop := zTm w T g ∧ zCm w T g ∧ zNm w T K g X TS TA TB
theorem zMd_now {w : St} {T : Tp} {K : Int32 → Int32 → Int32 → Prop} {g : Sg} {X TS TA TB : List Nat} {t : Nat} (hc : zTc T) (h : zMd w T K g X TS TA TB) : zMd (zsI w 19 27 0 (Int32.ofNat t)) T K (sS g t) X TS TA TB := by
  have f : zFr 0x80000000000000000000000000000000000000000000000000000000000000000000000000000000000000000000000000000000000000000000000000000000000000000000000000000000000000000000000000000000000000000000000000000000000000000000000000000000000000000000000000000000000000000000000000000000000000000000000000000000000000000000000 w (zsI w 19 27 0 (Int32.ofNat t)) := zFr_I (zFr_rf _ _) (by decide)
  refine ⟨zTm_fr f (by decide) h.1, ⟨fun n hn => ?_, fun b hb => ?_, ?_⟩, zNm_fr f (by decide) hc (fun _ _ _ => rfl) h.2.2⟩
  · rw [zgI_sI, if_neg (by simp)]; exact h.2.1.1 n hn
  · rw [zgI_sI, if_neg (by simp)]; exact h.2.1.2.1 b hb
  · rw [zgI_sI, if_pos ⟨rfl, rfl, rfl⟩]; rfl
theorem zm_frame1 {w : St} {T : Tp} {K : Int32 → Int32 → Int32 → Prop} {g : Sg} {X TS TA TB : List Nat} {q due N : Nat} {to kind addr dv : Int32} {D : Dg} (hT : zTM w T) (hc : zTc T) (hq : tv T q) (hX : X.length ≤ 100) (h : zMd w T K g X TS TA TB) (hfl : (gF g).length < 512) (h12 : D.1 12 = Int32.ofNat (q / 8)) (h13 : D.1 13 = Int32.ofNat (q % 8)) (h11 : D.1 11 = to) (hm : zPm w T K X kind addr dv D) (hN : 18 < N) :
    ∃ w', fX19_frame N 0 q to kind addr dv (Int32.ofNat due) w = some (0, w') ∧ zMd w' T K (sF g (gF g ++ [(due, D)])) X TS TA TB ∧ zKm X w w' ∧ zFr mFr w w' := by
  obtain ⟨h1, h2, ms, mw, h3, h4, h5⟩ := h
  obtain ⟨w', ms', r1, r2, r3, r4, r5, r6⟩ := zm_frame (due := due) hT hc hq h3 h4 h5 hfl (by have := hold_len hc hX h3 h4; omega) h12 h13 h11 hm hN
  exact ⟨w', r1, ⟨zTm_fr r6 (by decide) h1, zCm_fr r6 (by decide) h2, ms', mw, r2, r3, r4⟩, zKm_sub hold_X r5, r6⟩
def mPM : Nat := mFr ||| 0x80000000000000000000000000000000000000000000000000000000000000000000000000000000000000000000000000000000000000000000000000000000000000000000000000000000000000000000000000000000000000000000000000000000000000000000000000000000000000000000000000000000000000000000000000000000000000000000000000000000000000000000000
theorem zm_put103 {w : St} {T : Tp} {E : Ev} {K : Int32 → Int32 → Int32 → Prop} {g : Sg} {X TS TA TB : List Nat} {q N : Nat} {to kind addr dv f : Int32} {D : Dg} (hT : zTM w T) (hc : zTc T) (hE : zEm w T E) (hw : zEw T E) (hq : tv T q) (hX : X.length ≤ 100) (h : zMd w T K g X TS TA TB) (h12 : D.1 12 = Int32.ofNat (q / 8)) (h13 : D.1 13 = Int32.ofNat (q % 8)) (h11 : D.1 11 = to) (hm : zPm w T K X kind addr dv D) (hf : f = 0 ∨ f = 1 ∨ f = 2 ∨ f = 3) (hN : 18 < N) :
    ∃ w', fX19_put_103 N 0 q to kind addr dv (q / 8) f w = some (0, w') ∧ zMd w' T K (if f = 1 then g else if 512 < (gF g).length + (if f = 2 then 2 else 1) then sS g (eN E) else sF g (gF g ++ nArr f (eN E) (eD E (q / 8)) D)) X TS TA TB ∧ zKm X w w' ∧ zFr mPM w w' := by
  have hd := hw.2 _ hq.1
  have hn := hw.1
  have hfl : zgI w 19 23 0 = Int32.ofNat (gF g).length := h.2.2.choose_spec.choose_spec.1.2.1
  have hle : (gF g).length ≤ 512 := h.2.2.choose_spec.choose_spec.1.2.2.1
  have g1 := (hE.2 _ hq.1).2.1
  have noroom : ∀ k, 512 < (gF g).length + k → k ≤ 2 → ∃ w', fX19_put_124 N 0 q to kind addr dv (q / 8) f (Int32.ofNat k) w = some (0, w') ∧ zMd w' T K (sS g (eN E)) X TS TA TB ∧ zKm X w w' ∧ zFr mPM w w' := by
    intro k hk h2k
    unfold fX19_put_124 fX19_stir
    rw [hfl, zo_add, show (512 : Int32) = Int32.ofNat 512 from rfl, if_neg (by rw [zo_le (by omega) (by omega)]; omega), zl_e, zc_e, hE.1]
    have f : zFr 0x80000000000000000000000000000000000000000000000000000000000000000000000000000000000000000000000000000000000000000000000000000000000000000000000000000000000000000000000000000000000000000000000000000000000000000000000000000000000000000000000000000000000000000000000000000000000000000000000000000000000000000000000 w (zsI w 19 27 0 (Int32.ofNat (eN E))) := zFr_I (zFr_rf _ _) (by decide)
    exact ⟨_, rfl, zMd_now hc h, zKm_fr f (by decide) (fun _ _ _ => rfl), zFr_w f (by decide)⟩
  have fr1 : ∀ due, (gF g).length + 1 ≤ 512 → ∃ w', fX19_frame N 0 q to kind addr dv (Int32.ofNat due) w = some (0, w') ∧ zMd w' T K (sF g (gF g ++ [(due, D)])) X TS TA TB ∧ zKm X w w' ∧ zFr mFr w w' := fun due hr => zm_frame1 hT hc hq hX h (by omega) h12 h13 h11 hm hN
  unfold fX19_put_103
  by_cases c1 : f = 1
  · rw [if_neg (fun y => y c1), if_pos c1]
    unfold fX19_put_124 fX19_put_176 fX19_put_205
    rw [hfl, show (0 : Int32) = Int32.ofNat 0 from rfl, zo_add, show (512 : Int32) = Int32.ofNat 512 from rfl, if_pos (by rw [zo_le (by omega) (by omega)]; omega), c1, if_neg (by decide), if_pos (by decide), if_pos (by decide), if_pos (by decide)]
    exact ⟨w, rfl, h, zKm_rf X w, zFr_rf _ _⟩
  rw [if_pos c1, if_neg c1]
  by_cases c2 : f = 2
  · rw [if_neg (fun y => y c2), if_pos c2]
    by_cases hr : 512 < (gF g).length + 2
    · rw [if_pos hr]
      exact noroom 2 hr (by omega)
    rw [if_neg hr]
    unfold fX19_put_124
    rw [hfl, show (2 : Int32) = Int32.ofNat 2 from rfl, zo_add, show (512 : Int32) = Int32.ofNat 512 from rfl, if_pos (by rw [zo_le (by omega) (by omega)]; omega), c2, if_neg (by decide), if_neg (by decide)]
    unfold fX19_put_155
    rw [hE.1, g1, zo_add]
    obtain ⟨w1, r1, r2, r3, r4⟩ := fr1 (eN E + eD E (q / 8)) (by omega)
    rw [r1, zc_e]
    unfold fX19_put_176
    rw [if_neg (by decide)]
    have E1 := zEm_fr r4 (by decide) hE
    obtain ⟨w2, s1, s2, s3, s4⟩ := zm_frame1 (due := eN E + 3 * eD E (q / 8)) (zTM_fr r4 (by decide) hT) hc hq hX r2 (by show (gF g ++ [_]).length < 512; simp; omega) h12 h13 h11 (zKm_len r3 (fun _ hd => hd) hm) hN
    rw [E1.1, (E1.2 _ hq.1).2.1, show (3 : Int32) * Int32.ofNat (eD E (q / 8)) = Int32.ofNat (3 * eD E (q / 8)) from (Int32.ofNat_mul 3 _).symm, zo_add, s1, zc_e]
    unfold fX19_put_205
    rw [if_pos (by decide)]
    refine ⟨w2, rfl, ?_, zKm_tr r3 s3, zFr_w (zFr_tr r4 s4) (by decide)⟩
    have e : sF (sF g (gF g ++ [(eN E + eD E (q / 8), D)])) (gF (sF g (gF g ++ [(eN E + eD E (q / 8), D)])) ++ [(eN E + 3 * eD E (q / 8), D)]) = sF g (gF g ++ nArr 2 (eN E) (eD E (q / 8)) D) := by
      show sF g ((gF g ++ [(eN E + eD E (q / 8), D)]) ++ [(eN E + 3 * eD E (q / 8), D)]) = _
      rw [List.append_assoc]
      rfl
    rw [e] at s2
    exact s2
  · rw [if_pos c2, if_neg c2]
    by_cases hr : 512 < (gF g).length + 1
    · rw [if_pos hr]
      exact noroom 1 hr (by omega)
    rw [if_neg hr]
    unfold fX19_put_124
    rw [hfl, show (1 : Int32) = Int32.ofNat 1 from rfl, zo_add, show (512 : Int32) = Int32.ofNat 512 from rfl, if_pos (by rw [zo_le (by omega) (by omega)]; omega)]
    by_cases c0 : f = 0
    · rw [if_pos c0]
      unfold fX19_put_155
      rw [hE.1, g1, zo_add]
      obtain ⟨w1, r1, r2, r3, r4⟩ := fr1 (eN E + eD E (q / 8)) (by omega)
      rw [r1, zc_e]
      unfold fX19_put_176 fX19_put_205
      rw [if_pos c2, if_pos (by rw [c0]; decide)]
      have en : nArr f (eN E) (eD E (q / 8)) D = [(eN E + eD E (q / 8), D)] := by
        unfold nArr
        rw [if_neg c1, if_neg c2, if_neg (by rw [c0]; decide)]
      rw [en]
      exact ⟨w1, rfl, r2, r3, zFr_w r4 (by decide)⟩
    · rw [if_neg c0, if_pos c2]
      unfold fX19_put_176 fX19_put_205
      rw [if_pos c2]
      by_cases c3 : f = 3
      · rw [if_neg (fun y => y c3), hE.1, g1, show (4 : Int32) * Int32.ofNat (eD E (q / 8)) = Int32.ofNat (4 * eD E (q / 8)) from (Int32.ofNat_mul 4 _).symm, zo_add]
        obtain ⟨w1, r1, r2, r3, r4⟩ := fr1 (eN E + 4 * eD E (q / 8)) (by omega)
        rw [r1, zc_e]
        have en : nArr f (eN E) (eD E (q / 8)) D = [(eN E + 4 * eD E (q / 8), D)] := by
          unfold nArr
          rw [if_neg c1, if_neg c2, if_pos c3]
        rw [en]
        exact ⟨w1, rfl, r2, r3, zFr_w r4 (by decide)⟩
      · rcases hf with h | h | h | h
        · exact absurd h c0
        · exact absurd h c1
        · exact absurd h c2
        · exact absurd h c3
/-- the rest of the schedule moves up -/
theorem zm_put60 {w : St} {q n L N : Nat} {to kind addr dv f : Int32} (hL : L < 64) (hN : 64 < N) (h7 : zgI w 16 7 n = Int32.ofNat L) : ∃ w', fX19_put_60 N N 0 q to kind addr dv n f (0 : Int32) w = fX19_put_94 N 0 q to kind addr dv n f w' ∧ (∀ i, i < L → zgA w' 165 n i = zgA w 165 n (i + 1)) ∧ (∀ k o i, ¬ (k = 165 ∧ o = n) → zgA w' k o i = zgA w k o i) ∧ (∀ k j o, zgI w' k j o = zgI w k j o) ∧ (∀ k o i, zgL w' k o i = zgL w k o i) ∧ zFr 0x2000000000000000000000000000000000000000000000000000000000000000000000000000000000000000000000000000000000000000000000000000000000000000000000000000000000000000000000000000000000000000000000000000000000000000000000000000000000000000000000000000000000000000000000000000000000000000000000000000000000000000000000000000000000000000000000000 w w' := by
  let gi : Nat → Nat → Int32 := fun i j => if j < i then zgA w 165 n (j + 1) else zgA w 165 n j
  refine ⟨zsC w 165 n (gi L), ?_, fun i hi => ?_, fun k o i h => ?_, fun _ _ _ => rfl, fun _ _ _ => rfl, zFr_C (zFr_rf _ _) (by decide)⟩
  · have e0 : zsC w 165 n (gi 0) = w := by
      have : gi 0 = zgA w 165 n := funext (fun j => by show (if _ then _ else _) = _; rw [if_neg (by omega)])
      rw [this]
      exact zsC_id w 165 n
    refine Eq.trans ?_ (zlp0 (G := fun n' i => fX19_put_60 N n' 0 q to kind addr dv n f (Int32.ofNat i) (zsC w 165 n (gi i))) (r := fX19_put_94 N 0 q to kind addr dv n f (zsC w 165 n (gi L))) (k := L) (n := N) (by omega) ?_ ?_)
    · show _ = fX19_put_60 N N 0 q to kind addr dv n f (Int32.ofNat 0) (zsC w 165 n (gi 0))
      rw [e0]
      rfl
    · intro n' i hi
      show fX19_put_60b N (fX19_put_60 N n') 0 q to kind addr dv n f (Int32.ofNat i) (zsC w 165 n (gi i)) = _
      unfold fX19_put_60b
      have : zgI (zsC w 165 n (gi i)) 16 7 n = Int32.ofNat L := h7
      rw [this, if_neg (by rw [zo_le (by omega) (by omega)]; omega), zo_i1, zkk (by omega) (by omega), zkk (by omega) (by omega), zl_e, zoC (by omega), zoC (by omega), zgA_sCs, zsA_C2, zl_e]
      have : (fun j => if j = i then gi i (i + 1) else gi i j) = gi (i + 1) := by
        funext j
        show (if _ then (if _ then _ else _) else (if _ then _ else _)) = (if _ then _ else _)
        by_cases e : j = i
        · rw [if_pos e, if_neg (by omega), if_pos (by omega), e]
        · rw [if_neg e]
          by_cases e2 : j < i
          · rw [if_pos e2, if_pos (by omega)]
          · rw [if_neg e2, if_neg (by omega)]
      rw [this]
    · intro n'
      show fX19_put_60b N (fX19_put_60 N n') 0 q to kind addr dv n f (Int32.ofNat L) (zsC w 165 n (gi L)) = _
      unfold fX19_put_60b
      have : zgI (zsC w 165 n (gi L)) 16 7 n = Int32.ofNat L := h7
      rw [this, if_pos (Int32.le_refl _)]
  · rw [zgA_sCs]
    show (if _ then _ else _) = _
    rw [if_pos hi]
  · rw [zgA_sC, if_neg h]
theorem zm_put {w : St} {T : Tp} {E : Ev} {K : Int32 → Int32 → Int32 → Prop} {g : Sg} {X TS TA TB : List Nat} {q N : Nat} {to kind addr dv : Int32} {D : Dg} (hT : zTM w T) (hc : zTc T) (hE : zEm w T E) (hw : zEw T E) (hq : tv T q) (hX : X.length ≤ 100) (h : zMd w T K g X TS TA TB) (h12 : D.1 12 = Int32.ofNat (q / 8)) (h13 : D.1 13 = Int32.ofNat (q % 8)) (h11 : D.1 11 = to) (hm : zPm w T K X kind addr dv D) (hN : 64 < N) :
    ∃ w', fX19_put N 0 q to kind addr dv w = some (0, w') ∧ zMd w' T K (nPut E g q D) X TS TA TB ∧ zKm X w w' := by
  obtain ⟨t0, t2, t1, t3⟩ := hT.2.2.2 _ hq
  have hup := (hE.2 _ hq.1).2.2
  unfold fX19_put
  rw [zl_e, t2, zd_e, zl_e]
  have f3 : zFr 0x1000000000000000000000000000000000000000000000000000000000000000000000000000000000000000000000000000000000000000000000000000000000000000000000000000000000000000000000000000000000000000000000000000000000000000000000000000000000000000000000000000000000000000000 w (zsI w 16 8 (q / 8) (zgI w 16 8 (q / 8) + 1)) := zFr_I (zFr_rf _ _) (by decide)
  have k3 : zKm X w (zsI w 16 8 (q / 8) (zgI w 16 8 (q / 8) + 1)) := zKm_fr f3 (by decide) (fun _ _ _ => rfl)
  have d3 : zMd (zsI w 16 8 (q / 8) (zgI w 16 8 (q / 8) + 1)) T K (nPut1 g q) X TS TA TB := by
    refine ⟨zTm_fr f3 (by decide) h.1, ⟨fun n hn => ?_, fun b hb => ?_, ?_⟩, zNm_fr f3 (by decide) hc (fun _ _ _ => rfl) h.2.2⟩
    · show zgI (zsI w 16 8 (q / 8) (zgI w 16 8 (q / 8) + 1)) 16 8 n = zupd (gP g) (q / 8) (gP g (q / 8) + 1) n
      rw [zgI_sI, h.2.1.1 _ hq.1]
      unfold zupd
      by_cases c : n = q / 8
      · rw [if_pos ⟨rfl, rfl, c⟩, if_pos c]
      · rw [if_neg (fun y => c y.2.2), if_neg c]
        exact h.2.1.1 n hn
    · rw [zgI_sI, if_neg (by simp)]; exact h.2.1.2.1 b hb
    · rw [zgI_sI, if_neg (by simp)]; exact h.2.1.2.2
  have t3' := zTM_fr f3 (by decide) hT
  have e3 := zEm_fr f3 (by decide) hE
  have m3 := zKm_len k3 (fun _ hd => hd) hm
  have h7 := (h.1 _ hq.1).2.1
  have h7' : zgI (zsI w 16 8 (q / 8) (zgI w 16 8 (q / 8) + 1)) 16 7 (q / 8) = Int32.ofNat (gT g (q / 8)).length := by rw [zgI_sI, if_neg (by simp)]; exact h7
  revert f3 k3 d3 t3' e3 m3 h7'
  generalize zsI w 16 8 (q / 8) (zgI w 16 8 (q / 8) + 1) = w3
  intro f3 k3 d3 t3' e3 m3 h7'
  rw [(e3.2 _ hq.1).2.2]
  by_cases c : eU E (q / 8) = false
  · rw [c, if_neg (by simp [zbi])]
    refine ⟨w3, rfl, ?_, k3⟩
    unfold nPut
    rw [if_pos c]
    exact d3
  · have ct : eU E (q / 8) = true := by simpa using c
    rw [ct, if_pos (by decide), h7']
    obtain ⟨a64, a7, a165, a03⟩ := d3.1 _ hq.1
    -- the fate
    have fate : ∃ w4, (if Int32.ofNat (gT g (q / 8)).length ≤ 0 then (fX19_put_94 N 0 q to kind addr dv (q / 8) (0 : Int32) w3) else (zk (0 : Int32) 64 <| zl (zgA w3 165 (q / 8) (Int32.toNatClampNeg (0 : Int32))) fun v7 => zl (zsI w3 16 7 (q / 8) (Int32.ofNat (gT g (q / 8)).length - (1 : Int32))) fun z8 => fX19_put_60 N N 0 q to kind addr dv (q / 8) v7 (0 : Int32) z8)) = fX19_put_94 N 0 q to kind addr dv (q / 8) ((gT g (q / 8)).headD 0) w4 ∧ zMd w4 T K (nPut2 g q) X TS TA TB ∧ zKm X w3 w4 ∧ zTM w4 T ∧ zEm w4 T E := by
      have e1 : gT (nPut1 g q) (q / 8) = gT g (q / 8) := rfl
      rw [e1] at a64 a7 a165 a03
      cases hL : gT g (q / 8) with
      | nil =>
        refine ⟨w3, by rw [if_pos (by decide)]; rfl, ?_, zKm_rf X w3, t3', e3⟩
        have e2 : nPut2 g q = nPut1 g q := by
          unfold nPut2
          have : zupd (gT g) (q / 8) (gT g (q / 8)).tail = gT g := by
            funext i
            unfold zupd
            by_cases y : i = q / 8
            · rw [if_pos y, y, hL]; rfl
            · rw [if_neg y]
          rw [this]
          rfl
        rw [e2]
        exact d3
      | cons x t =>
        rw [hL] at a64 a7 a165 a03
        simp only [List.length_cons] at a64 a7 ⊢
        have x0 : zgA w3 165 (q / 8) 0 = x := a165 0 x rfl
        have f4 : zFr 0x800000000000000000000000000000000000000000000000000000000000000000000000000000000000000000000000000000000000000000000000000000000000000000000000000000000000000000000000000000000000000000000000000000000000000000000000000000000000000000000000000000000000000000 w3 (zsI w3 16 7 (q / 8) (Int32.ofNat t.length)) := zFr_I (zFr_rf _ _) (by decide)
        obtain ⟨w4, p1, p2, p3, p4, p5, p6⟩ := zm_put60 (N := N) (q := q) (n := q / 8) (to := to) (kind := kind) (addr := addr) (dv := dv) (f := x) (w := zsI w3 16 7 (q / 8) (Int32.ofNat t.length)) (L := t.length) (by omega) hN (by rw [zgI_sI, if_pos ⟨rfl, rfl, rfl⟩])
        have f34 := zFr_tr (zFr_w f4 (by decide) : zFr 0x2000000000000000000000000000000000000000000000000000000000000000000000000000000800000000000000000000000000000000000000000000000000000000000000000000000000000000000000000000000000000000000000000000000000000000000000000000000000000000000000000000000000000000000000000000000000000000000000000000000000000000000000000000000000000000000000000 _ _) (zFr_w p6 (by decide))
        refine ⟨w4, ?_, ⟨fun n hn => ?_, ?_, ?_⟩, zKm_fr f34 (by decide) (fun k o i => p5 k o i), zTM_fr f34 (by decide) t3', zEm_fr f34 (by decide) e3⟩
        · rw [if_neg (by rw [show (0 : Int32) = Int32.ofNat 0 from rfl, zo_le (by omega) (by omega)]; omega), zk_0 (by decide) (by decide), zl_e, show (Int32.toNatClampNeg (0 : Int32)) = 0 from rfl, x0, zo_s1 (by omega), zl_e]
          exact p1
        · by_cases y : n = q / 8
          · subst y
            have e2 : gT (nPut2 g q) (q / 8) = t := by
              show zupd (gT g) (q / 8) (gT g (q / 8)).tail (q / 8) = t
              rw [zupd_s, hL]; rfl
            rw [e2]
            refine ⟨by omega, ?_, fun i y hi => ?_, fun y hy => a03 y (List.mem_cons_of_mem _ hy)⟩
            · rw [p4, zgI_sI, if_pos ⟨rfl, rfl, rfl⟩]
            · have hi' := (List.getElem?_eq_some_iff.mp hi).1
              rw [p2 i hi']
              exact a165 (i + 1) y (by simpa using hi)
          · have e2 : gT (nPut2 g q) n = gT g n := zupd_n y
            rw [e2]
            obtain ⟨b1, b2, b3, b4⟩ := d3.1 n hn
            refine ⟨b1, ?_, fun i y' hi => ?_, b4⟩
            · rw [p4, zgI_sI, if_neg (fun z => y z.2.2)]; exact b2
            · rw [p3 165 n i (fun z => y z.2)]; exact b3 i y' hi
        · have := zCm_fr f34 (by decide) d3.2.1
          exact this
        · have := zNm_fr f34 (by decide) hc (fun k o i => p5 k o i) d3.2.2
          exact this
    obtain ⟨w4, q1, q2, q3, q4, q5⟩ := fate
    rw [q1]
    have k4 := zKm_tr k3 q3
    have m4 := zKm_len k4 (fun _ hd => hd) hm
    have hff : (gT g (q / 8)).headD 0 = 0 ∨ (gT g (q / 8)).headD 0 = 1 ∨ (gT g (q / 8)).headD 0 = 2 ∨ (gT g (q / 8)).headD 0 = 3 := by
      have e1 : gT (nPut1 g q) (q / 8) = gT g (q / 8) := rfl
      rw [e1] at a03
      cases hL : gT g (q / 8) with
      | nil => exact Or.inl rfl
      | cons x t => exact a03 x (by rw [hL]; exact List.mem_cons_self)
    unfold fX19_put_94 nPut nPut3
    rw [if_neg c]
    by_cases c0 : (gT g (q / 8)).headD 0 = 0
    · rw [if_pos c0, if_pos c0]
      obtain ⟨w', r1, r2, r3, -⟩ := zm_put103 (N := N) (f := (gT g (q / 8)).headD 0) q4 hc q5 hw hq hX q2 h12 h13 h11 m4 hff (by omega)
      exact ⟨w', r1, r2, zKm_tr k4 r3⟩
    · rw [if_neg c0, if_neg c0]
      unfold fX19_stir
      rw [zl_e, zc_e, q5.1]
      have f7 : zFr 0x80000000000000000000000000000000000000000000000000000000000000000000000000000000000000000000000000000000000000000000000000000000000000000000000000000000000000000000000000000000000000000000000000000000000000000000000000000000000000000000000000000000000000000000000000000000000000000000000000000000000000000000000 w4 (zsI w4 19 27 0 (Int32.ofNat (eN E))) := zFr_I (zFr_rf _ _) (by decide)
      have k7 := zKm_tr k4 (zKm_fr (H := X) f7 (by decide) (fun _ _ _ => rfl))
      obtain ⟨w', r1, r2, r3, -⟩ := zm_put103 (N := N) (f := (gT g (q / 8)).headD 0) (zTM_fr f7 (by decide) q4) hc (zEm_fr f7 (by decide) q5) hw hq hX (zMd_now hc q2) h12 h13 h11 (zKm_len k7 (fun _ hd => hd) hm) hff (by omega)
      exact ⟨w', r1, r2, zKm_tr k7 r3⟩
