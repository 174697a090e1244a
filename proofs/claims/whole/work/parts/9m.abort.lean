/-! an error about an asking end: both sides abort it -/
theorem zRE_one {z z' w w' : St} {T : Tp} {e : Nat} (h : zRE z w T) (hc : ∀ e', e' ≠ e → zSc z z' e') (hm : ∀ e', e' ≠ e → zSm w w' e') (he : zRd z' w' e) : zRE z' w' T := by
  intro b d hb hr hd
  by_cases q : 6 * b + d = e
  · rw [q]; exact he
  · exact zRd_cg (hc _ q) (hm _ q) (h b d hb hr hd)
theorem zlen_h {z : St} {T : Tp} {b : Nat} (h : zTC z T) (hb : b < tb T) : zlen z 119 b = if tr T b = true then 0 else 6 := by
  unfold zlen
  rw [if_pos rfl, (h.2.1.2 b hb).2.2.1]
  cases tr T b <;> rfl
theorem zc_finish11 {z : St} {e N : Nat} (h : zgR z 3 18 e = some e) : fX3_finish N e (11 : Int32) z = some (0, zsI (zsI (zsI (zsI (zsI (zsI z 3 0 e 11) 3 9 e 0) 3 11 e 0) 3 12 e 0) 3 13 e 0) 10 0 e 0) := by
  unfold fX3_finish fX3_finish_31
  rw [zl_e, zl_e, zl_e, zl_e, if_neg (by decide), zl_e, zl_e]
  have : zgR (zsI (zsI (zsI (zsI (zsI z 3 0 e 11) 3 9 e 0) 3 11 e 0) 3 12 e 0) 3 13 e 0) 3 18 e = some e := h
  rw [this, zd_e, zl_e]
theorem zm_become11 {w : St} {e N : Nat} (v : Int32) : fX14_become N e (11 : Int32) v w = some (0, zsI (zsI (zsI (zsI (zsI (zsI w 14 0 e 11) 14 28 e 0) 14 30 e 0) 14 31 e 0) 14 32 e 0) 14 33 e 0) := by
  unfold fX14_become fX14_become_21 fX14_become_54 fX14_become_55 fX14_become_63
  rw [zl_e, if_neg (by decide), if_pos rfl, zl_e, zl_e, zl_e]
  by_cases c : zgI (zsI (zsI (zsI (zsI w 14 0 e 11) 14 28 e 0) 14 30 e 0) 14 31 e 0) 14 32 e = 0
  · rw [if_pos c, zq_e (Or.inl rfl), zl_e, zl_e, if_pos (by decide)]
  · rw [if_neg c, if_pos (by decide), zq_e (Or.inl rfl), zl_e, zl_e, if_pos (by decide)]
/-- what an abort may touch in the class -/
def mAb : Nat := 0x10000000000000000000000000000000000000000000000000000000000000000000000000000000000000000000000000000000000003a01000000000000000000000000000000000000000000000000
def mAbm : Nat := 0x3d000000100000000000000000000000000000000000000000000000000000000000000000000000000000000000000000000000000000000000000000000000000000000000000000000000000000000000000000000000000000000000000000000000000000000000000000000000000000000
theorem za_abort {T : Tp} {b N : Nat} {source peer own pport : Int32} (hc : zTc T) (hb : b < tb T) (ha : tha T b source = true) (hN : 6 < N) :
    ∀ (m d n n' : Nat) (z w : St), d + m = 6 → m < n → m < n' → zTC z T → zTM w T → zRE z w T →
    ∃ z' w', fX11_abortAsking_3 N n b peer own pport (Int32.ofNat d) z = some (0, z') ∧ fX19_act_3 N n' 0 b source peer own pport (Int32.ofNat d) w = some (0, w') ∧ zRE z' w' T ∧ zFr mAb z z' ∧ zFr mAbm w w' ∧ (∀ k o i, zgL w' k o i = zgL w k o i) ∧ ∀ j u, zgI z' 7 j u = zgI z 7 j u := by
  have h16 := hc.1
  intro m
  induction m with
  | zero =>
    intro d n n' z w hd hn hn' hT hM hR
    obtain ⟨n, rfl⟩ : ∃ k, n = k + 1 := ⟨n - 1, by omega⟩
    obtain ⟨n', rfl⟩ : ∃ k, n' = k + 1 := ⟨n' - 1, by omega⟩
    obtain rfl : d = 6 := by omega
    have h1 := (hT.2.1.2 b hb).2.2.1
    have h2 := (hM.2.1.2 b hb).2.2.1
    refine ⟨z, w, ?_, ?_, hR, zFr_rf _ _, zFr_rf _ _, fun _ _ _ => rfl, fun _ _ => rfl⟩
    · show fX11_abortAsking_3b N (fX11_abortAsking_3 N n) b peer own pport (Int32.ofNat 6) z = _
      unfold fX11_abortAsking_3b
      rw [zlen_h hT hb, if_pos]
      cases tr T b <;> decide
    · show fX19_act_3b N (fX19_act_3 N n') 0 b source peer own pport (Int32.ofNat 6) w = _
      unfold fX19_act_3b
      rw [h2]
      cases tr T b
      · rw [if_neg (by decide), if_pos (by decide)]
      · rw [if_pos (by decide)]
  | succ m ih =>
    intro d n n' z w hd hn hn' hT hM hR
    obtain ⟨n, rfl⟩ : ∃ k, n = k + 1 := ⟨n - 1, by omega⟩
    obtain ⟨n', rfl⟩ : ∃ k, n' = k + 1 := ⟨n' - 1, by omega⟩
    have h1 := (hT.2.1.2 b hb).2.2.1
    have h2 := (hM.2.1.2 b hb).2.2.1
    have s1 : fX11_abortAsking_3 N (n + 1) b peer own pport (Int32.ofNat d) z = fX11_abortAsking_3b N (fX11_abortAsking_3 N n) b peer own pport (Int32.ofNat d) z := rfl
    have s2 : fX19_act_3 N (n' + 1) 0 b source peer own pport (Int32.ofNat d) w = fX19_act_3b N (fX19_act_3 N n') 0 b source peer own pport (Int32.ofNat d) w := rfl
    rw [s1, s2]
    unfold fX11_abortAsking_3b fX19_act_3b fX11_abortAsking_56 fX19_act_100
    by_cases hr : tr T b = true
    · refine ⟨z, w, ?_, ?_, hR, zFr_rf _ _, zFr_rf _ _, fun _ _ _ => rfl, fun _ _ => rfl⟩
      · rw [zlen_h hT hb, if_pos hr, if_pos (by rw [zo_le (by omega) (by omega)]; omega)]
      · rw [h2, hr, if_pos (by decide)]
    have hr' : tr T b = false := by simpa using hr
    obtain ⟨t1, t2, t3, t4, t5⟩ := hT.2.2.1.2 b hb hr' d (by omega)
    obtain ⟨u1, u2⟩ := hM.2.2.1 b hb hr' d (by omega)
    rw [zlen_h hT hb, if_neg hr, if_neg (by rw [zo_le (by omega) (by omega)]; omega), zkk (by omega) (by omega), zl_e, zoC (by omega), t1, zd_e]
    rw [h2, hr', if_neg (by decide), show (6 : Int32) = Int32.ofNat 6 from rfl, if_neg (by rw [zo_le (by omega) (by omega)]; omega), zkk (by omega) (by omega), zl_e, u1, zd_e, zl_e, u2, zkk (by omega) (by omega), zl_e, zd_e]
    have next := ih (d + 1) n n' z w (by omega) (by omega) (by omega) hT hM hR
    have hdo := hR b d hb hr' (by omega)
    have own1 := zm_isOwn (N := N) hM hc source hb hN
    rw [ha] at own1
    unfold fX2_isFor
    rcases hdo.2 with h | h | h
    · rw [h.1, if_pos (by decide), zc_e, if_pos rfl, h.2.2.1, if_pos rfl, zl_e, zl_e, zo_i1]
      exact next
    · rw [h.1, if_pos (by decide), zc_e, if_pos rfl, h.2.2.1, if_pos rfl, zl_e, zl_e, zo_i1]
      exact next
    · obtain ⟨g20, g130, g133, g21, g22, g23, -, -, -, -, gs, -⟩ := id h
      have gst := gs.1.1
      rw [g20, g133, if_neg (show ¬ ¬ (2 : Int32) = 2 by decide), if_neg (show ¬ (1 : Int32) = 0 by decide), zd_e, ← gst, own1]
      by_cases q1 : zgI z 2 1 (6 * b + d) = own
      · rw [if_neg (fun y => y q1)]
        by_cases q2 : zgI z 2 2 (6 * b + d) = peer
        · rw [if_neg (fun y => y q2)]
          by_cases q3 : zgI z 2 3 (6 * b + d) = pport
          · rw [if_neg (fun y => y q3), zc_e, if_neg (by decide), zl_e, t2, zd_e]
            by_cases q4 : zgI z 3 0 (6 * b + d) = 2
            · rw [if_neg (fun y => y q4), zl_e, zd_e, zc_finish11 t5, zc_e]
              rw [if_neg (fun y => y q4), zc_e, if_neg (by decide), ← g21, ← g22, ← g23, if_neg (fun y => y q1), if_neg (fun y => y q2), if_neg (fun y => y q3), zm_become11, zc_e, zl_e, zl_e, zo_i1]
              have f1 : zFr mAb z (zsI (zsI (zsI (zsI (zsI (zsI z 3 0 (6 * b + d) 11) 3 9 (6 * b + d) 0) 3 11 (6 * b + d) 0) 3 12 (6 * b + d) 0) 3 13 (6 * b + d) 0) 10 0 (6 * b + d) 0) := zFr_I (zFr_I (zFr_I (zFr_I (zFr_I (zFr_I (zFr_rf _ _) (by decide)) (by decide)) (by decide)) (by decide)) (by decide)) (by decide)
              have f2 : zFr mAbm w (zsI (zsI (zsI (zsI (zsI (zsI w 14 0 (6 * b + d) 11) 14 28 (6 * b + d) 0) 14 30 (6 * b + d) 0) 14 31 (6 * b + d) 0) 14 32 (6 * b + d) 0) 14 33 (6 * b + d) 0) := zFr_I (zFr_I (zFr_I (zFr_I (zFr_I (zFr_I (zFr_rf _ _) (by decide)) (by decide)) (by decide)) (by decide)) (by decide)) (by decide)
              have R1 := zRE_ab hdo g20
              have RE1 : zRE (zsI (zsI (zsI (zsI (zsI (zsI z 3 0 (6 * b + d) 11) 3 9 (6 * b + d) 0) 3 11 (6 * b + d) 0) 3 12 (6 * b + d) 0) 3 13 (6 * b + d) 0) 10 0 (6 * b + d) 0) (zsI (zsI (zsI (zsI (zsI (zsI w 14 0 (6 * b + d) 11) 14 28 (6 * b + d) 0) 14 30 (6 * b + d) 0) 14 31 (6 * b + d) 0) 14 32 (6 * b + d) 0) 14 33 (6 * b + d) 0) T := zRE_one hR (fun e' he => ⟨fun k j _ _ => by simp only [zgI_sI, he, and_false, if_false], fun _ _ _ => rfl⟩) (fun e' he => ⟨fun k j _ _ => by simp only [zgI_sI, he, and_false, if_false], fun _ _ _ => rfl⟩) R1
              obtain ⟨z', w', r1, r2, r3, r4, r5, r6, r7⟩ := ih (d + 1) n n' _ _ (by omega) (by omega) (by omega) (zTC_fr f1 (by decide) hT) (zTM_fr f2 (by decide) hM) RE1
              exact ⟨z', w', r1, r2, r3, zFr_tr f1 r4, zFr_tr f2 r5, r6, fun j u => (r7 j u).trans (by simp [zgI_sI])⟩
            · rw [if_pos q4, if_pos q4, zl_e, zl_e, zo_i1]
              exact next
          · rw [if_pos q3, zc_e, if_pos rfl, zl_e, zo_i1]
            by_cases q4 : zgI z 3 0 (6 * b + d) = 2
            · rw [if_neg (fun y => y q4), zc_e, if_neg (by decide), ← g21, ← g22, ← g23, if_neg (fun y => y q1), if_neg (fun y => y q2), if_pos q3, zl_e]
              exact next
            · rw [if_pos q4, zl_e]
              exact next
        · rw [if_pos q2, zc_e, if_pos rfl, zl_e, zo_i1]
          by_cases q4 : zgI z 3 0 (6 * b + d) = 2
          · rw [if_neg (fun y => y q4), zc_e, if_neg (by decide), ← g21, ← g22, if_neg (fun y => y q1), if_pos q2, zl_e]
            exact next
          · rw [if_pos q4, zl_e]
            exact next
      · rw [if_pos q1, zc_e, if_pos rfl, zl_e, zo_i1]
        by_cases q4 : zgI z 3 0 (6 * b + d) = 2
        · rw [if_neg (fun y => y q4), zc_e, if_neg (by decide), ← g21, if_pos q1, zl_e]
          exact next
        · rw [if_pos q4, zl_e]
          exact next
