/-! routers: the class writes down what it would tell -/
theorem zmd16 : ∀ v, v < 96 → ((Int32.ofNat v) - (Int32.ofNat (v / 16)) * (16 : Int32)) + (1 : Int32) = Int32.ofNat (v % 16 + 1) := by decide +kernel
def zTlC (z : St) (T : Tp) (tl : Nat → Nat) : Prop := ∀ p, tv T p → zgI z 8 5 p = Int32.ofNat (tl p) ∧ 1 ≤ tl p ∧ tl p ≤ 1000
/-- only the draft of router b changes -/
def zDx (b : Nat) (z z' : St) : Prop := zFr mX0_addToDraft z z' ∧ (∀ k j o, ¬ (k = 0 ∧ j = 6 ∧ o = b) → zgI z' k j o = zgI z k j o) ∧ (∀ k o i, ¬ (k = 105 ∧ o = b) → zgA z' k o i = zgA z k o i) ∧ zKr b z z'
theorem zDx_rf (b : Nat) (z : St) : zDx b z z := ⟨zFr_rf _ _, fun _ _ _ _ => rfl, fun _ _ _ _ => rfl, zKr_rf _ _⟩
theorem zDx_tr {b : Nat} {x y z : St} (h1 : zDx b x y) (h2 : zDx b y z) : zDx b x z := ⟨zFr_tr h1.1 h2.1, fun k j o n => (h2.2.1 k j o n).trans (h1.2.1 k j o n), fun k o i n => (h2.2.2.1 k o i n).trans (h1.2.2.1 k o i n), zKr_tr h1.2.2.2 h2.2.2.2⟩
theorem zDx_h {b : Nat} {z z' : St} {H : List Nb} (f : zDx b z z') (h : zRCh z b H) : zRCh z' b H := zRCh_cg (f.2.1 9 1 b (by omega)) (fun i => f.2.2.1 131 b i (by omega)) h
theorem zDx_k {b : Nat} {z z' : St} {H : List Nb} (f : zDx b z z') (h : zRCk z b H) : zRCk z' b H := zRCk_cz (f.2.1 9 5 b (by omega)) (fun i => f.2.2.1 132 b i (by omega)) (fun i => f.2.2.1 133 b i (by omega)) (fun o i _ _ => f.2.2.1 135 o i (by omega)) h
theorem zDx_l {b : Nat} {z z' : St} {T : Tp} {tl : Nat → Nat} (f : zDx b z z') (h : zTlC z T tl) : zTlC z' T tl := fun p hp => ⟨(f.2.1 8 5 p (by omega)).trans (h p hp).1, (h p hp).2⟩
theorem zDx_e {b : Nat} {z z' : St} {T : Tp} {E : Ev} (f : zDx b z z') (h : zEc z T E) : zEc z' T E := ⟨(f.2.1 11 4 0 (by omega)).trans h.1, fun n hn => ⟨(f.2.1 5 1 n (by omega)).trans (h.2 n hn).1, (f.2.1 5 2 n (by omega)).trans (h.2 n hn).2.1, (f.2.1 5 3 n (by omega)).trans (h.2 n hn).2.2⟩⟩
theorem zDx_T {b : Nat} {z z' : St} {T : Tp} (f : zDx b z z') (h : zTC z T) : zTC z' T := zTC_fr f.1 (by decide) h
theorem zDx_b {b : Nat} {z z' : St} {Ba : Nat → Option Ad} (f : zDx b z z') (h : zRCb z b Ba) : zRCb z' b Ba := zRCb_cg (fun k i hk => f.2.2.1 k b i (by omega)) (fun o i _ _ => f.2.2.1 104 o i (by omega)) h
theorem zDx_t {b : Nat} {z z' : St} {L : List (Nat × Nat × Nat)} (f : zDx b z z') (h : zRCt z b L) : zRCt z' b L := zRCt_cg (f.2.1 9 9 b (by omega)) (fun k i hk => f.2.2.1 k b i (by omega)) h
theorem zc_draftFriends {z : St} {T : Tp} {tl : Nat → Nat} {b p N : Nat} {H : List Nb} {L : List En} (hT : zTC z T) (hc : zTc T) (hb : b < tb T) (hr : tr T b = true) (hp : tv T p) (hTl : zTlC z T tl) (hh : zRCh z b H) (hk : zRCk z b H) (hH : zHn H) (hD : zDr z b L) (hl : L.length + (dFr T tl (fks H) p).length ≤ 23) (hN : 16 < N) :
    ∃ z', fX9_draftFriends N b p z = some (0, z') ∧ zDr z' b (L ++ dFr T tl (fks H) p) ∧ zDx b z z' := by
  have h16 := hH.1.2.2
  have p24 := tv_24 hc hp
  obtain ⟨-, tp1, tp2, -, -⟩ := hT.2.2.2 p hp
  have r9 := (hT.2.2.1.1 b hb hr).2.1
  have t5 := (hT.2.1.1 (p / 8) p24).2.1
  have loop : ∀ (C A : List Nb) (nn : Nat) (y : St), A ++ C = H → C.length < nn → zDr y b (L ++ dFr T tl (fks A) p) → zDx b z y → ∃ z', fX9_draftFriends_2 N nn b p (Int32.ofNat A.length) y = some (0, z') ∧ zDr z' b (L ++ dFr T tl (fks H) p) ∧ zDx b z z' := by
    intro C
    induction C with
    | nil =>
      intro A nn y e hn hd hx
      obtain ⟨nn, rfl⟩ : ∃ k, nn = k + 1 := ⟨nn - 1, by omega⟩
      rw [List.append_nil] at e
      refine ⟨y, ?_, by rw [← e]; exact hd, hx⟩
      show fX9_draftFriends_2b N (fX9_draftFriends_2 N nn) b p (Int32.ofNat A.length) y = _
      unfold fX9_draftFriends_2b
      rw [(zDx_h hx hh).1, e, if_pos (Int32.le_refl _)]
    | cons n C ih =>
      intro A nn y e hn hd hx
      obtain ⟨nn, rfl⟩ : ∃ k, nn = k + 1 := ⟨nn - 1, by omega⟩
      have hlen : A.length < H.length := by rw [← e, List.length_append, List.length_cons]; omega
      have hget : H[A.length]? = some n := by rw [← e, List.getElem?_append_right (Nat.le_refl _), Nat.sub_self]; rfl
      have hnm : n ∈ H := List.mem_of_getElem? hget
      have n96 := (hH.1.1 n hnm).1
      have e131 : zgA y 131 b A.length = Int32.ofNat n.1 := (zDx_h hx hh).2 _ _ hget
      have e133 : zgA y 133 b n.1 = zbi n.2.2.1 := by rw [((zDx_k hx hk).2 n.1 n96).2.1, fn_mem hH.1.2.1 hnm]
      have e82 : zgI y 8 2 p = Int32.ofNat (ti T p) := (hx.2.1 8 2 p (by omega)).trans tp2
      have e' : (A ++ [n]) ++ C = H := by rw [List.append_assoc]; exact e
      have step : ∀ y' : St, fX9_draftFriends_64 N (fX9_draftFriends_2 N nn) b p (Int32.ofNat A.length) y' = fX9_draftFriends_2 N nn b p (Int32.ofNat (A ++ [n]).length) y' := fun y' => by
        unfold fX9_draftFriends_64
        rw [zo_i1, zl_e, List.length_append]; rfl
      have ti6 : ti T p < 2147483648 := by
        have w := hc.2.2.2.2.2.1 p hp
        have := tp_le hc w.1; omega
      have start : fX9_draftFriends_2 N (nn + 1) b p (Int32.ofNat A.length) y = (if ¬ Int32.ofNat (n.1 / 16) = Int32.ofNat (ti T p) then (fX9_draftFriends_64 N (fX9_draftFriends_2 N nn) b p (Int32.ofNat A.length) y) else (zk (Int32.ofNat n.1) 96 <| if ¬ (zgA y 133 b (Int32.toNatClampNeg (Int32.ofNat n.1))) = 0 then (zl (zgR y 9 12 b) fun y7 => zl (zgR y 8 1 p) fun y8 => zd y8 fun a9 => zd y7 fun a10 => zc (fX0_addToDraft N a10 (((Int32.ofNat n.1) - (Int32.ofNat (n.1 / 16)) * (16 : Int32)) + (1 : Int32)) (zgI y 5 0 a9) (zgI y 8 5 p) y) fun _ z12 => fX9_draftFriends_64 N (fX9_draftFriends_2 N nn) b p (Int32.ofNat A.length) z12) else (fX9_draftFriends_64 N (fX9_draftFriends_2 N nn) b p (Int32.ofNat A.length) y))) := by
        show fX9_draftFriends_2b N (fX9_draftFriends_2 N nn) b p (Int32.ofNat A.length) y = _
        unfold fX9_draftFriends_2b
        rw [(zDx_h hx hh).1, if_neg (by rw [zo_le (by omega) (by omega)]; omega), zkk (show A.length < 16 by omega) (by omega), zl_e, zoC (by omega), e131, zdv16 n.1 n96, e82]
      by_cases c1 : n.1 / 16 = ti T p
      · rw [if_neg (fun h => h (by rw [c1])), zkk n96 (by omega), zoC (by omega), e133] at start
        by_cases c2 : n.2.2.1 = true
        · have ek : dFr T tl (fks (A ++ [n])) p = dFr T tl (fks A) p ++ [(n.1 % 16 + 1, p / 8, tl p)] := by
            rw [fks_app, dFr_app]
            congr 1
            have : fks [n] = [n.1] := by unfold fks; simp [c2]
            rw [this]; unfold dFr; simp [c1]
          have hlt : (L ++ dFr T tl (fks A) p).length < 24 := by
            have e2 : dFr T tl (fks H) p = dFr T tl (fks A) p ++ dFr T tl (fks (n :: C)) p := by rw [← e, fks_app, dFr_app]
            rw [e2, List.length_append] at hl
            rw [List.length_append]; omega
          have tlp := hTl p hp
          obtain ⟨y', r1, r2, r3, r4, r5⟩ := zc_addToDraft (N := N) (e := ((n.1 % 16 + 1, p / 8, tl p) : En)) hd hlt (show n.1 % 16 + 1 < 2048 by omega) (show p / 8 < 256 by omega) (show tl p < 4096 by omega)
          have r1 : fX0_addToDraft N b (Int32.ofNat (n.1 % 16 + 1)) (Int32.ofNat (p / 8)) (Int32.ofNat (tl p)) y = some (0, y') := r1
          have fr : zFr mX0_addToDraft y y' := wX0_addToDraft (Nat.and_self _) (zFr_rf _ _) _ _ r1
          obtain ⟨z', s1, s2, s3⟩ := ih (A ++ [n]) nn y' e' (by rw [List.length_cons] at hn; omega) (by rw [ek, ← List.append_assoc]; exact r2) (zDx_tr hx ⟨fr, r3, r4, r5⟩)
          refine ⟨z', ?_, s2, s3⟩
          have q912 : zgR y 9 12 b = some b := (hx.2.2.2.2.2.2.2 9 12 b).trans r9
          have q81 : zgR y 8 1 p = some (p / 8) := (hx.2.2.2.2.2.2.2 8 1 p).trans tp1
          have q50 : zgI y 5 0 (p / 8) = Int32.ofNat (p / 8) := (hx.2.1 5 0 _ (by omega)).trans t5
          have q85 : zgI y 8 5 p = Int32.ofNat (tl p) := (zDx_l hx hTl p hp).1
          rw [start, c2, if_pos (by decide), zl_e, zl_e, q81, zd_e, q912, zd_e, zmd16 n.1 n96, q50, q85, r1, zc_e, step]
          exact s1
        · have c2 : n.2.2.1 = false := by simpa using c2
          have ek : dFr T tl (fks (A ++ [n])) p = dFr T tl (fks A) p := by
            have : fks [n] = [] := by unfold fks; simp [c2]
            rw [fks_app, this, List.append_nil]
          obtain ⟨z', s1, s2, s3⟩ := ih (A ++ [n]) nn y e' (by rw [List.length_cons] at hn; omega) (by rw [ek]; exact hd) hx
          refine ⟨z', ?_, s2, s3⟩
          rw [start, c2, if_neg (by decide), step]
          exact s1
      · have ek : dFr T tl (fks (A ++ [n])) p = dFr T tl (fks A) p := by
          rw [fks_app, dFr_app]
          have : dFr T tl (fks [n]) p = [] := by
            unfold dFr fks
            cases h : n.2.2.1 <;> simp [h, c1]
          rw [this, List.append_nil]
        obtain ⟨z', s1, s2, s3⟩ := ih (A ++ [n]) nn y e' (by rw [List.length_cons] at hn; omega) (by rw [ek]; exact hd) hx
        refine ⟨z', ?_, s2, s3⟩
        rw [start, if_pos (fun h => c1 ((zo_eq (by omega) ti6).mp h)), step]
        exact s1
  unfold fX9_draftFriends
  have e0 : dFr T tl (fks []) p = [] := rfl
  exact loop H [] N z rfl (by omega) (by rw [e0, List.append_nil]; exact hD) (zDx_rf _ _)
theorem zc_draftAdvert {z : St} {T : Tp} {E : Ev} {tl : Nat → Nat} {b N : Nat} {H : List Nb} (hT : zTC z T) (hc : zTc T) (hE : zEc z T E) (hb : b < tb T) (hr : tr T b = true) (hTl : zTlC z T tl) (hh : zRCh z b H) (hk : zRCk z b H) (hH : zHn H) (hN : 24 < N) :
    ∃ z', fX9_draftAdvert N b b (Int32.ofNat (tn T)) z = some (0, z') ∧ zDr z' b (rDr T E tl b (fks H)) ∧ zDx b z z' := by
  have h16 := hH.1.2.2
  have n24 := hc.2.1
  have r9 := (hT.2.2.1.1 b hb hr).2.1
  have l6 := dN_len (E := E) (tl := tl) hc hb (tn T)
  have l16 : ∀ k, (dF T tl b (fks H) k).length ≤ 16 := fun k => Nat.le_trans (dF_len hc hb (fks_pw hH.1.2.1) k) (Nat.le_trans (fks_len H) h16)
  have loop2 : ∀ (m i nn : Nat) (y : St), i + m = tn T → m < nn → zDr y b (dN T E tl b (tn T) ++ dF T tl b (fks H) i) → zDx b z y → ∃ z', fX9_draftAdvert_60 N nn b b (Int32.ofNat (tn T)) (Int32.ofNat i) y = some (0, z') ∧ zDr z' b (rDr T E tl b (fks H)) ∧ zDx b z z' := by
    intro m
    induction m with
    | zero =>
      intro i nn y hi hn hd hx
      obtain ⟨nn, rfl⟩ : ∃ k, nn = k + 1 := ⟨nn - 1, by omega⟩
      have : i = tn T := by omega
      subst this
      refine ⟨y, ?_, hd, hx⟩
      show fX9_draftAdvert_60b N (fX9_draftAdvert_60 N nn) b b (Int32.ofNat (tn T)) (Int32.ofNat (tn T)) y = _
      unfold fX9_draftAdvert_60b
      rw [if_pos (Int32.le_refl _)]
    | succ m ih =>
      intro i nn y hi hn hd hx
      obtain ⟨nn, rfl⟩ : ∃ k, nn = k + 1 := ⟨nn - 1, by omega⟩
      have po := zc_portOn (n := i) (N := N) (zDx_T hx hT) hc hb (by omega) (by omega)
      have step : ∀ y' : St, fX9_draftAdvert_83 N (fX9_draftAdvert_60 N nn) b b (Int32.ofNat (tn T)) (Int32.ofNat i) y' = fX9_draftAdvert_60 N nn b b (Int32.ofNat (tn T)) (Int32.ofNat (i + 1)) y' := fun y' => by
        unfold fX9_draftAdvert_83
        rw [zo_i1, zl_e]
      have start : fX9_draftAdvert_60 N (nn + 1) b b (Int32.ofNat (tn T)) (Int32.ofNat i) y = (zo (tpo T b i) (fX9_draftAdvert_83 N (fX9_draftAdvert_60 N nn) b b (Int32.ofNat (tn T)) (Int32.ofNat i) y) fun a7 => zc (fX9_draftFriends N b a7 y) fun _ z9 => fX9_draftAdvert_83 N (fX9_draftAdvert_60 N nn) b b (Int32.ofNat (tn T)) (Int32.ofNat i) z9) := by
        show fX9_draftAdvert_60b N (fX9_draftAdvert_60 N nn) b b (Int32.ofNat (tn T)) (Int32.ofNat i) y = _
        unfold fX9_draftAdvert_60b
        rw [if_neg (by rw [zo_le (by omega) (by omega)]; omega), po, zc_e]
      cases e1 : tpo T b i with
      | none =>
        obtain ⟨z', s1, s2, s3⟩ := ih (i + 1) nn y (by omega) (by omega) (by rw [dF_s, e1]; show zDr y b (_ ++ (_ ++ [])); rw [List.append_nil]; exact hd) hx
        refine ⟨z', ?_, s2, s3⟩
        rw [start, e1, zo_0, step]
        exact s1
      | some p =>
        obtain ⟨v, -, v3, -, -⟩ := tpo_some hc hb e1
        have es : dF T tl b (fks H) (i + 1) = dF T tl b (fks H) i ++ dFr T tl (fks H) p := by rw [dF_s, e1]
        have l1 := l16 (i + 1)
        rw [es, List.length_append] at l1
        obtain ⟨y', r1, r2, r3⟩ := zc_draftFriends (N := N) (zDx_T hx hT) hc hb hr v (zDx_l hx hTl) (zDx_h hx hh) (zDx_k hx hk) hH hd (by rw [List.length_append]; omega) (by omega)
        obtain ⟨z', s1, s2, s3⟩ := ih (i + 1) nn y' (by omega) (by omega) (by rw [es, ← List.append_assoc]; exact r2) (zDx_tr hx r3)
        refine ⟨z', ?_, s2, s3⟩
        rw [start, e1, zo_e, r1, zc_e, step]
        exact s1
  have loop1 : ∀ (m i nn : Nat) (y : St), i + m = tn T → m < nn → zDr y b (dN T E tl b i) → zDx b z y → ∃ z', fX9_draftAdvert_10 N nn b b (Int32.ofNat (tn T)) (Int32.ofNat i) y = some (0, z') ∧ zDr z' b (rDr T E tl b (fks H)) ∧ zDx b z z' := by
    intro m
    induction m with
    | zero =>
      intro i nn y hi hn hd hx
      obtain ⟨nn, rfl⟩ : ∃ k, nn = k + 1 := ⟨nn - 1, by omega⟩
      have : i = tn T := by omega
      subst this
      have e0 : dF T tl b (fks H) 0 = [] := rfl
      obtain ⟨z', s1, s2, s3⟩ := loop2 (tn T) 0 N y (by omega) (by omega) (by rw [e0, List.append_nil]; exact hd) hx
      refine ⟨z', ?_, s2, s3⟩
      show fX9_draftAdvert_10b N (fX9_draftAdvert_10 N nn) b b (Int32.ofNat (tn T)) (Int32.ofNat (tn T)) y = _
      unfold fX9_draftAdvert_10b
      rw [if_pos (Int32.le_refl _)]
      exact s1
    | succ m ih =>
      intro i nn y hi hn hd hx
      obtain ⟨nn, rfl⟩ : ∃ k, nn = k + 1 := ⟨nn - 1, by omega⟩
      have po := zc_portOn (n := i) (N := N) (zDx_T hx hT) hc hb (by omega) (by omega)
      have step : ∀ y' : St, fX9_draftAdvert_52 N (fX9_draftAdvert_10 N nn) b b (Int32.ofNat (tn T)) (Int32.ofNat i) y' = fX9_draftAdvert_10 N nn b b (Int32.ofNat (tn T)) (Int32.ofNat (i + 1)) y' := fun y' => by
        unfold fX9_draftAdvert_52
        rw [zo_i1, zl_e]
      have start : fX9_draftAdvert_10 N (nn + 1) b b (Int32.ofNat (tn T)) (Int32.ofNat i) y = (zo (tpo T b i) (fX9_draftAdvert_52 N (fX9_draftAdvert_10 N nn) b b (Int32.ofNat (tn T)) (Int32.ofNat i) y) fun a7 => zl (zgR y 8 1 a7) fun y8 => zd y8 fun a9 => if (zgI y 5 3 a9) = 0 then (fX9_draftAdvert_52 N (fX9_draftAdvert_10 N nn) b b (Int32.ofNat (tn T)) (Int32.ofNat i) y) else (zl (zgR y 9 12 b) fun y11 => zd y11 fun a12 => zc (fX0_addToDraft N a12 (0 : Int32) (Int32.ofNat i) (zgI y 8 5 a7) y) fun _ z14 => fX9_draftAdvert_52 N (fX9_draftAdvert_10 N nn) b b (Int32.ofNat (tn T)) (Int32.ofNat i) z14)) := by
        show fX9_draftAdvert_10b N (fX9_draftAdvert_10 N nn) b b (Int32.ofNat (tn T)) (Int32.ofNat i) y = _
        unfold fX9_draftAdvert_10b
        rw [if_neg (by rw [zo_le (by omega) (by omega)]; omega), po, zc_e]
      have stay : dN T E tl b (i + 1) = dN T E tl b i → fX9_draftAdvert_10 N (nn + 1) b b (Int32.ofNat (tn T)) (Int32.ofNat i) y = fX9_draftAdvert_10 N nn b b (Int32.ofNat (tn T)) (Int32.ofNat (i + 1)) y → ∃ z', fX9_draftAdvert_10 N (nn + 1) b b (Int32.ofNat (tn T)) (Int32.ofNat i) y = some (0, z') ∧ zDr z' b (rDr T E tl b (fks H)) ∧ zDx b z z' := fun e0 run => by
        rw [run]
        exact ih (i + 1) nn y (by omega) (by omega) (by rw [e0]; exact hd) hx
      cases e1 : tpo T b i with
      | none =>
        refine stay (by rw [dN_s, e1]; exact List.append_nil _) ?_
        rw [start, e1, zo_0, step]
      | some p =>
        obtain ⟨v, -, v3, -, -⟩ := tpo_some hc hb e1
        obtain ⟨-, tp1, -, -, -⟩ := hT.2.2.2 p v
        have q81 : zgR y 8 1 p = some i := by rw [← v3]; exact (hx.2.2.2.2.2.2.2 8 1 p).trans tp1
        have q53 : zgI y 5 3 i = zbi (eU E i) := ((zDx_e hx hE).2 i (by omega)).2.2
        rw [e1, zo_e, zl_e, q81, zd_e, q53] at start
        by_cases cu : eU E i = true
        · have es : dN T E tl b (i + 1) = dN T E tl b i ++ [(0, i, tl p)] := by
            rw [dN_s, e1]
            show dN T E tl b i ++ (if eU E i = true then [((0, i, tl p) : En)] else []) = _
            rw [if_pos cu]
          have tlp := hTl p v
          have l6' := dN_len (E := E) (tl := tl) hc hb i
          obtain ⟨y', r1, r2, r3, r4, r5⟩ := zc_addToDraft (N := N) (e := ((0, i, tl p) : En)) hd (by omega) (show 0 < 2048 by omega) (show i < 256 by omega) (show tl p < 4096 by omega)
          have r1 : fX0_addToDraft N b (0 : Int32) (Int32.ofNat i) (Int32.ofNat (tl p)) y = some (0, y') := r1
          have fr : zFr mX0_addToDraft y y' := wX0_addToDraft (Nat.and_self _) (zFr_rf _ _) _ _ r1
          obtain ⟨z', s1, s2, s3⟩ := ih (i + 1) nn y' (by omega) (by omega) (by rw [es]; exact r2) (zDx_tr hx ⟨fr, r3, r4, r5⟩)
          refine ⟨z', ?_, s2, s3⟩
          have q912 : zgR y 9 12 b = some b := (hx.2.2.2.2.2.2.2 9 12 b).trans r9
          have q85 : zgI y 8 5 p = Int32.ofNat (tl p) := (zDx_l hx hTl p v).1
          rw [start, cu, if_neg (by decide), zl_e, q912, zd_e, q85, r1, zc_e, step]
          exact s1
        · have cu : eU E i = false := by simpa using cu
          refine stay ?_ ?_
          · rw [dN_s, e1]
            show dN T E tl b i ++ (if eU E i = true then [((0, i, tl p) : En)] else []) = _
            rw [cu, if_neg (by decide), List.append_nil]
          · rw [start, cu, if_pos (by decide), step]
  let z1 : St := zsI z 0 6 b 0
  have d1 : zDx b z z1 := ⟨zFr_I (zFr_rf _ _) (by decide), fun k j o n => by rw [show zgI z1 k j o = zgI (zsI z 0 6 b 0) k j o from rfl, zgI_sI, if_neg n], fun _ _ _ _ => rfl, zKr_I (Or.inr rfl)⟩
  have D1 : zDr z1 b (dN T E tl b 0) := ⟨by rw [show zgI z1 0 6 b = zgI (zsI z 0 6 b 0) 0 6 b from rfl, zgI_sI, if_pos ⟨rfl, rfl, rfl⟩]; rfl, fun i e he => by cases he⟩
  obtain ⟨z', s1, s2, s3⟩ := loop1 (tn T) 0 N z1 (by omega) (by omega) D1 d1
  refine ⟨z', ?_, s2, s3⟩
  unfold fX9_draftAdvert
  rw [zl_e, r9, zd_e, zl_e]
  exact s1
