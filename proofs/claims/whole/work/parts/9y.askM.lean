/-! the model: all that waits for a station is taken out -/
theorem zNm_perm {w : St} {T : Tp} {K : Int32 → Int32 → Int32 → Prop} {g : Sg} {X X' TS TA TB : List Nat} (hp : X.Perm X') (h : zNm w T K g X TS TA TB) : zNm w T K g X' TS TA TB := by
  obtain ⟨ms, mw, h1, h2, h3⟩ := h
  exact ⟨ms, mw, h1, h2, zMp_perm (List.Perm.append_right _ hp) h3⟩
theorem zMV_perm {w : St} {T : Tp} {E : Ev} {K : Int32 → Int32 → Int32 → Prop} {g : Sg} {X X' TS TA TB : List Nat} (hp : X.Perm X') (h : zMV w T E g K X TS TA TB) : zMV w T E g K X' TS TA TB := ⟨h.1, h.2.1, h.2.2.1, h.2.2.2.1, ⟨h.2.2.2.2.1.1, h.2.2.2.2.1.2.1, zNm_perm hp h.2.2.2.2.1.2.2⟩, h.2.2.2.2.2⟩
theorem gRem_0 (g : Sg) (q s : Nat) : gRem g q s 0 = g := by
  unfold gRem
  rw [wrem_0, zupd_id]; rfl
theorem zm_take54 {T : Tp} {E : Ev} {K : Int32 → Int32 → Int32 → Prop} {TS TA TB : List Nat} {K2 : Nat → Nat → Int32 → St → Option (Int32 × St)} {q s N : Nat} {x2 : Int32} (hq : tv T q) (hs : s < 8) (hN : 17 < N) :
    ∀ (m i n : Nat) (g : Sg) (X : List Nat) (w : St), ((gW g q).filter (fun x => wTo x == s)).length = m → i + m ≤ 16 → m < n → (∀ D, D ∈ gW g q → wTo D < 8 ∧ D.1 11 = Int32.ofNat (wTo D)) → zMV w T E g K X TS TA TB →
    ∃ (w' : St) (ds : List Nat), (zc (fX19_firstWaiting N 0 q (Int32.ofNat s) w) fun r z => fX19_askings_54 N K2 n 0 q x2 (Int32.ofNat s) (Int32.ofNat i) r z) = fX19_askings_86 N K2 N 0 q x2 (Int32.ofNat (i + m)) (0 : Int32) w' ∧ ds.length = m ∧ (∀ j (hj : j < m) (hj' : j < ds.length) (hj2 : j < ((gW g q).filter (fun x => wTo x == s)).length), zMD w' T K ds[j] ((gW g q).filter (fun x => wTo x == s))[j] ∧ zgA w' 189 0 (i + j) = Int32.ofNat ds[j]) ∧ (∀ k, k < i → zgA w' 189 0 k = zgA w 189 0 k) ∧ zMV w' T E (gRem g q s m) K (ds.reverse ++ X) TS TA TB ∧ zKm X w w' ∧ zFr (mX18_takeWaiting ||| 0x2000000000000000000000000000000000000000000000000000000000000000000000000000000000000000000000000000000000000000000000000000000000000000000000000000000000000000000000000000000000000000000000000000000000000000000000000000000000000000000000000000000000000000000000000000000000000000000000000000000000000000000000000000000000000000000000000000000) w w' := by
  intro m
  induction m with
  | zero =>
    intro i n g X w hm hi hn hW hM
    obtain ⟨n, rfl⟩ : ∃ n', n = n' + 1 := ⟨n - 1, by omega⟩
    obtain ⟨ms, mw, k1, k2, k3⟩ := hM.2.2.2.2.1.2.2
    have hnone : wfi (gW g q) s = none := by
      cases h : wfi (gW g q) s with
      | none => rfl
      | some j =>
        obtain ⟨A, D, B, e1, -, e3, -⟩ := wfi_some h
        have : D ∈ (gW g q).filter (fun x => wTo x == s) := List.mem_filter.mpr ⟨by rw [e1]; simp, by simp [e3]⟩
        rw [List.length_eq_zero_iff.mp hm] at this; cases this
    have fw := zm_firstWaiting (N := N) (k2.1 q hq) hW hs hN
    rw [hnone] at fw
    refine ⟨w, [], ?_, rfl, fun j hj => by omega, fun _ _ => rfl, by rw [gRem_0]; exact hM, zKm_rf _ _, zFr_rf _ _⟩
    rw [fw, zc_e]
    show fX19_askings_54b N K2 (fX19_askings_54 N K2 n) 0 q x2 (Int32.ofNat s) (Int32.ofNat i) (-1) w = _
    unfold fX19_askings_54b
    rw [if_pos rfl]; rfl
  | succ m ih =>
    intro i n g X w hm hi hn hW hM
    obtain ⟨n, rfl⟩ : ∃ n', n = n' + 1 := ⟨n - 1, by omega⟩
    obtain ⟨ms, mw, k1, k2, k3⟩ := hM.2.2.2.2.1.2.2
    have hc := hM.2.1
    cases hj : wfi (gW g q) s with
    | none => rw [(wfi_none hj).1] at hm; cases hm
    | some j =>
      obtain ⟨A, D, B, a1, a2, a3, a4, a5, a6⟩ := wfi_some hj
      have hjl : j < (gW g q).length := by rw [a1]; simp; omega
      have hWj : (gW g q)[j] = D := by
        have : (gW g q)[j]? = some D := by rw [a1, List.getElem?_append_right (by omega), a2]; simp
        rw [List.getElem?_eq_getElem hjl] at this
        exact Option.some.inj this
      have fw := zm_firstWaiting (N := N) (k2.1 q hq) hW hs hN
      rw [hj] at fw
      obtain ⟨w1, d, t1, t2, t3, t4, t5⟩ := zm_takeN (N := N) hc hq hM.2.2.2.2.1 hjl hN
      rw [hWj] at t3
      have f1 : zFr mX18_takeWaiting w w1 := wX18_takeWaiting (Nat.and_self _) (zFr_rf _ _) _ _ t1
      let g1 : Sg := sW g (zupd (gW g) q ((gW g q).eraseIdx j))
      have hg1 : gW g1 q = A ++ B := by
        show zupd (gW g) q ((gW g q).eraseIdx j) q = _
        rw [zupd_s, a6]
      have hfil : (gW g q).filter (fun x => wTo x == s) = D :: (A ++ B).filter (fun x => wTo x == s) := by
        rw [a1, List.filter_append, a4, List.filter_cons, if_pos (by simpa using a3), List.filter_append, a4]; rfl
      have M1 : zMV w1 T E g1 K (d :: X) TS TA TB := ⟨zTM_fr f1 (by decide) hM.1, hc, zEm_fr f1 (by decide) hM.2.2.1, hM.2.2.2.1, t4, zAm_fr f1 (by decide) hM.2.2.2.2.2.1, zHm_fr f1 (by decide) hM.2.2.2.2.2.2⟩
      let w2 : St := zsA w1 189 0 i (Int32.ofNat d)
      have f2 : zFr 0x2000000000000000000000000000000000000000000000000000000000000000000000000000000000000000000000000000000000000000000000000000000000000000000000000000000000000000000000000000000000000000000000000000000000000000000000000000000000000000000000000000000000000000000000000000000000000000000000000000000000000000000000000000000000000000000000000000000 w1 w2 := zFr_A (zFr_rf _ _) (by decide)
      have M2 : zMV w2 T E g1 K (d :: X) TS TA TB := zMV_fr f2 (by decide) (fun _ _ _ => rfl) M1
      have kd : zKm (d :: X) w1 w2 := zKm_fr f2 (by decide) (fun _ _ _ => rfl)
      obtain ⟨w3, ds, u1, u2, u3, u4, u5, u6, u7⟩ := ih (i + 1) n g1 (d :: X) w2 (by rw [hg1]; rw [hfil] at hm; simpa using hm) (by omega) (by omega) (fun F hF => hW F (by rw [hg1] at hF; rw [a1]; simp at hF ⊢; rcases hF with y | y; exact Or.inl y; exact Or.inr (Or.inr y))) M2
      refine ⟨w3, d :: ds, ?_, by simp [u2], fun j hj hj' hj2 => ?_, fun k hk => ?_, ?_, ?_, ?_⟩
      · rw [fw]
        show zc (zc (fX18_takeWaiting N q (Int32.ofNat j) w) fun r5 z6 => some (r5, z6)) _ = _
        rw [t1, zc_e, zc_e]
        show fX19_askings_54b N K2 (fX19_askings_54 N K2 n) 0 q x2 (Int32.ofNat s) (Int32.ofNat i) (Int32.ofNat d) w1 = _
        unfold fX19_askings_54b
        rw [if_neg (zo_ne1 (by omega)), zkk (by omega) (by omega), zl_e, zoC (by omega), zl_e, zo_i1]
        show zc (fX19_firstWaiting N 0 q (Int32.ofNat s) w2) _ = _
        rw [u1]
        congr 2
        omega
      · cases j with
        | zero =>
          have e0 : ((gW g q).filter (fun x => wTo x == s))[0] = D := by
            have : ((gW g q).filter (fun x => wTo x == s))[0]? = some D := by rw [hfil]; rfl
            rw [List.getElem?_eq_getElem hj2] at this
            exact Option.some.inj this
          refine ⟨?_, ?_⟩
          · rw [e0]; exact zKm_MD (zKm_tr kd u6) (List.mem_cons_self) t3
          · rw [Nat.add_zero, u4 i (by omega)]
            show zgA (zsA w1 189 0 i (Int32.ofNat d)) 189 0 i = _
            rw [zgA_sA, if_pos ⟨rfl, rfl, rfl⟩]; rfl
        | succ j =>
          have hj3 : j < ((gW g1 q).filter (fun x => wTo x == s)).length := by rw [hg1]; rw [hfil] at hj2; simpa using hj2
          have e0 : ((gW g q).filter (fun x => wTo x == s))[j + 1] = ((gW g1 q).filter (fun x => wTo x == s))[j] := by
            have : ((gW g q).filter (fun x => wTo x == s))[j + 1]? = ((gW g1 q).filter (fun x => wTo x == s))[j]? := by rw [hfil, hg1]; rfl
            rw [List.getElem?_eq_getElem hj2, List.getElem?_eq_getElem hj3] at this
            exact Option.some.inj this
          obtain ⟨b1, b2⟩ := u3 j (by omega) (by omega) hj3
          rw [e0]
          refine ⟨b1, ?_⟩
          rw [show i + (j + 1) = i + 1 + j by omega]; exact b2
      · rw [u4 k (by omega)]
        show zgA (zsA w1 189 0 i _) 189 0 k = _
        rw [zgA_sA, if_neg (by omega), zFr_gA f1 (by decide)]
      · have e1 : gRem g1 q s m = gRem g q s (m + 1) := by
          unfold gRem
          show sW (sW g _) (zupd (zupd (gW g) q _) q (wrem s m (gW g1 q))) = _
          rw [hg1, zupd_zupd, ← wrem_step A a4 a3, ← a1]; rfl
        rw [← e1, List.reverse_cons, List.append_assoc]
        exact u5
      · exact zKm_tr t5 (zKm_tr (zKm_sub (fun e he => List.mem_cons_of_mem _ he) kd) (zKm_sub (fun e he => List.mem_cons_of_mem _ he) u6))
      · exact zFr_tr (zFr_w f1 (by decide)) (zFr_tr (zFr_w f2 (by decide)) (zFr_w u7 (by decide)))
