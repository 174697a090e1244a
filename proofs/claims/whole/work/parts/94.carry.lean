/-! the class: a datagram is put, cut or not; askings and answers are put -/
theorem zsz8 : ∀ v, v < 1481 → ((Int32.ofNat v) / (8 : Int32)) * (8 : Int32) = Int32.ofNat (v / 8 * 8) := by decide +kernel
theorem zc_putOn52 {T : Tp} {E : Ev} {X : List Nat} {q x sz N : Nat} {to : Int32} {D : Dg} (hc : zTc T) (hw : zEw T E) (hq : tv T q) (hx : x < 2 ∨ 515 ≤ x ∨ x ∈ X) (hDw : zDw D) (hX : X.length ≤ 1) (hN : 3 < N) (h8 : 8 ≤ sz) (hs : sz ≤ 1480) :
    ∀ (m a k n : Nat) (z : St) (g : Sg), dl D - a ≤ m → m ≤ k → m < n → a < 4000 → zTC z T → zEc z T E → zNd z T g X → zPC 11 z x D →
    ∃ z', fX11_putOn_52 N n 0 q to x (Int32.ofNat sz) (Int32.ofNat a) z = some (0, z') ∧ zNd z' T (nCut E (tw T q) q to D sz k a g) X ∧ zKp X z z' := by
  have h6 := hDw.1
  have hdl : dl D ≤ 1480 := by have := hDw.2.2.2.1; have := hDw.2.2.2.2.1; omega
  have hob := (hc.2.2.2.2.2.1 _ hq).1
  intro m
  induction m with
  | zero =>
    intro a k n z g hm hk hn ha hT hE hg hD
    obtain ⟨n, rfl⟩ : ∃ n', n = n' + 1 := ⟨n - 1, by omega⟩
    have e6 : zgI z 7 6 x = Int32.ofNat (dl D) := (hD.1 6 (by omega) (by omega)).trans h6
    refine ⟨z, ?_, ?_, zKp_rf X z⟩
    · show fX11_putOn_52b N (fX11_putOn_52 N n) 0 q to x (Int32.ofNat sz) (Int32.ofNat a) z = _
      unfold fX11_putOn_52b
      rw [e6, if_pos (by rw [zo_le (by omega) (by omega)]; omega)]
    · cases k with
      | zero => exact hg
      | succ k => unfold nCut; rw [if_pos (by omega)]; exact hg
  | succ m ih =>
    intro a k n z g hm hk hn ha hT hE hg hD
    obtain ⟨n, rfl⟩ : ∃ n', n = n' + 1 := ⟨n - 1, by omega⟩
    obtain ⟨k, rfl⟩ : ∃ k', k = k' + 1 := ⟨k - 1, by omega⟩
    have e6 : zgI z 7 6 x = Int32.ofNat (dl D) := (hD.1 6 (by omega) (by omega)).trans h6
    have hl : fX11_putOn_52 N (n + 1) 0 q to x (Int32.ofNat sz) (Int32.ofNat a) z = fX11_putOn_52b N (fX11_putOn_52 N n) 0 q to x (Int32.ofNat sz) (Int32.ofNat a) z := rfl
    rw [hl]
    unfold fX11_putOn_52b nCut
    rw [e6]
    by_cases c : dl D ≤ a
    · rw [if_pos (by rw [zo_le (by omega) (by omega)]; exact c), if_pos c]
      exact ⟨z, rfl, hg, zKp_rf X z⟩
    rw [if_neg (by rw [zo_le (by omega) (by omega)]; exact c), if_neg c]
    obtain ⟨q0, q1, q2, q3, q4⟩ := hT.2.2.2 _ hq
    have f1 : zFr 0x200000000000000000000000000000000000000000000000000000000000000000000000000000000000000000000000000000000000000000000000000000000000000000000000000000000000000000000000000000000000000000000000000000000000000000000000000000000000000000000000000000000000000000000000000000000000000000000000000000000000000000000000000000000000 z (zsA z 113 (tw T q) 5 (zgA z 113 (tw T q) 5 + 1)) := zFr_A (zFr_rf _ _) (by decide)
    have k1 : zKp X z (zsA z 113 (tw T q) 5 (zgA z 113 (tw T q) 5 + 1)) := fun u _ => ⟨fun _ => rfl, fun i => by rw [zgA_sA, if_neg (by simp)]⟩
    have d1 : zNd (zsA z 113 (tw T q) 5 (zgA z 113 (tw T q) 5 + 1)) T (sC g (zupd (gC g) (tw T q) (gC g (tw T q) + 1))) X := by
      refine ⟨zTr_fr f1 (by decide) hg.1, ⟨hg.2.1.1, fun b hb => ?_, hg.2.1.2.2⟩, zQq_fr f1 (by decide) hg.2.2⟩
      show zgA (zsA z 113 (tw T q) 5 (zgA z 113 (tw T q) 5 + 1)) 113 b 5 = zupd (gC g) (tw T q) (gC g (tw T q) + 1) b
      rw [zgA_sA, hg.2.1.2.1 _ hob]
      unfold zupd
      by_cases e : b = tw T q
      · rw [if_pos ⟨rfl, e, rfl⟩, if_pos e]
      · rw [if_neg (fun y => e y.2.1), if_neg e]
        exact hg.2.1.2.1 b hb
    have hmin : (if (Int32.ofNat (dl D) - Int32.ofNat a) < Int32.ofNat sz then (Int32.ofNat (dl D) - Int32.ofNat a) else Int32.ofNat sz) = Int32.ofNat (min sz (dl D - a)) := by
      rw [zo_sub (by omega)]
      by_cases c2 : dl D - a < sz
      · rw [if_pos (by rw [zo_lt (by omega) (by omega)]; exact c2), Nat.min_eq_right (by omega)]
      · rw [if_neg (by rw [zo_lt (by omega) (by omega)]; exact c2), Nat.min_eq_left (by omega)]
    obtain ⟨z2, e2, d2, k2⟩ := zc_putFrame (N := N) (a := a) (b := min sz (dl D - a)) (to := to) (zTC_fr f1 (by decide) hT) hc (zEc_fr f1 (by decide) hE) hw d1 hq hx (zKp_PC k1 hx hD) hDw (by omega) (by omega) hX hN
    have f2 : zFr mX11_putFrame _ z2 := wX11_putFrame (Nat.and_self _) (zFr_rf _ _) _ _ e2
    have k12 := zKp_tr k1 k2
    obtain ⟨z3, e3, d3, k3⟩ := ih (a + sz) k n z2 _ (by omega) (by omega) (by omega) (by omega) (zTC_fr f2 (by decide) (zTC_fr f1 (by decide) hT)) (zEc_fr f2 (by decide) (zEc_fr f1 (by decide) hE)) d2 (zKp_PC k12 hx hD)
    refine ⟨z3, ?_, d3, zKp_tr k12 k3⟩
    rw [zl_e, q0, zd_e, show (5 : Int32) = Int32.ofNat 5 from rfl, zkk (by omega) (by omega), zkk (by omega) (by omega), zl_e, zoC (by omega)]
    have e66 : zgI (zsA z 113 (tw T q) 5 (zgA z 113 (tw T q) 5 + 1)) 7 6 x = Int32.ofNat (dl D) := e6
    rw [e66, hmin, e2, zc_e, zl_e, zo_add]
    exact e3
theorem zc_putOn {z : St} {T : Tp} {E : Ev} {g : Sg} {X : List Nat} {q x N : Nat} {to : Int32} {D : Dg} (hT : zTC z T) (hc : zTc T) (hE : zEc z T E) (hw : zEw T E) (hg : zNd z T g X) (hq : tv T q) (hx : x < 2 ∨ 515 ≤ x ∨ x ∈ X) (hD : zPC 11 z x D) (hDw : zDw D) (hX : X.length ≤ 1) (hN : 1481 < N) :
    ∃ z', fX11_putOn N 0 q to x z = some (0, z') ∧ zNd z' T (nCarry E (tw T q) g q to D) X ∧ zKp X z z' := by
  have h6 := hDw.1
  have hdl : dl D ≤ 1480 := by have := hDw.2.2.2.1; have := hDw.2.2.2.2.1; omega
  have h1l := hDw.2.2.2.2.2
  have hd := hw.2 _ hq.1
  obtain ⟨q0, q1, q2, q3, q4⟩ := hT.2.2.2 _ hq
  have e6 : zgI z 7 6 x = Int32.ofNat (dl D) := (hD.1 6 (by omega) (by omega)).trans h6
  unfold fX11_putOn nCarry
  rw [zl_e, q1, zd_e, (hE.2 _ hq.1).1, show (20 : Int32) = Int32.ofNat 20 from rfl, zo_sub (by omega), zl_e, e6]
  by_cases c : dl D ≤ eL E (q / 8) - 20
  · rw [if_neg (by rw [zo_lt (by omega) (by omega)]; omega), if_pos c]
    obtain ⟨z', e, d, k⟩ := zc_putFrame (N := N) (a := 0) (b := dl D) (to := to) hT hc hE hw hg hq hx hD hDw (by omega) h1l hX (by omega)
    have e : fX11_putFrame N 0 q to x (0 : Int32) (Int32.ofNat (dl D)) z = some (0, z') := e
    rw [e, zc_e]
    exact ⟨z', rfl, d, k⟩
  · rw [if_pos (by rw [zo_lt (by omega) (by omega)]; omega), if_neg c, zsz8 _ (by omega), zl_e]
    have hm : (if (8 : Int32) < Int32.ofNat ((eL E (q / 8) - 20) / 8 * 8) then Int32.ofNat ((eL E (q / 8) - 20) / 8 * 8) else 8) = Int32.ofNat ((eL E (q / 8) - 20) / 8 * 8) := by
      rw [if_pos (by rw [show (8 : Int32) = Int32.ofNat 8 from rfl, zo_lt (by omega) (by omega)]; omega)]
    rw [hm]
    exact zc_putOn52 (N := N) hc hw hq hx hDw hX (by omega) (by omega) (by omega) 1480 0 1480 N z g (by omega) (by omega) (by omega) (by omega) hT hE hg hD
/-- the parcel of askings and answers -/
def zNo (z : St) : Prop := zgI z 7 3 1 = 0 ∧ ∀ i, zgA z 125 1 i = 0
theorem zNo_kp {X : List Nat} {z z' : St} (k : zKp X z z') (h : zNo z) : zNo z' := ⟨((k 1 (by omega)).1 3).trans h.1, fun i => ((k 1 (by omega)).2 i).trans (h.2 i)⟩
/-- a parcel is begun -/
theorem zc_begin (N x : Nat) (k l : Int32) (z : St) : ∃ z', fX7_begin N x k l z = some (0, z') ∧ (∀ k' j o, ¬ (k' = 7 ∧ o = x) → zgI z' k' j o = zgI z k' j o) ∧ (∀ j, zgI z' 7 j x = if j = 2 then k else if j = 4 then (if k = 0 ∨ k = 1 then 64 else 1) else if j = 5 ∨ j = 9 ∨ j = 10 then 0 else if j = 6 ∨ j = 7 then l else zgI z 7 j x) ∧ (∀ k o i, zgA z' k o i = zgA z k o i) := by
  have e21 : ∀ v, fX7_begin_21 N x l x v (zsI z 7 2 x k) = some (0, zsI (zsI (zsI (zsI (zsI (zsI (zsI z 7 2 x k) 7 4 x v) 7 5 x 0) 7 9 x 0) 7 10 x 0) 7 6 x l) 7 7 x l) := fun v => rfl
  have key : ∀ v, v = (if k = 0 ∨ k = 1 then (64 : Int32) else 1) → (∀ k' j o, ¬ (k' = 7 ∧ o = x) → zgI (zsI (zsI (zsI (zsI (zsI (zsI (zsI z 7 2 x k) 7 4 x v) 7 5 x 0) 7 9 x 0) 7 10 x 0) 7 6 x l) 7 7 x l) k' j o = zgI z k' j o) ∧ (∀ j, zgI (zsI (zsI (zsI (zsI (zsI (zsI (zsI z 7 2 x k) 7 4 x v) 7 5 x 0) 7 9 x 0) 7 10 x 0) 7 6 x l) 7 7 x l) 7 j x = if j = 2 then k else if j = 4 then (if k = 0 ∨ k = 1 then 64 else 1) else if j = 5 ∨ j = 9 ∨ j = 10 then 0 else if j = 6 ∨ j = 7 then l else zgI z 7 j x) := by
    intro v hv
    refine ⟨fun k' j o h => ?_, fun j => ?_⟩
    · have hn : ∀ a, ¬ (k' = 7 ∧ j = a ∧ o = x) := fun a q => h ⟨q.1, q.2.2⟩
      simp only [zgI_sI, hn, if_false]
    · simp only [zgI_sI, true_and, and_true]
      by_cases h7 : j = 7
      · subst h7; simp
      by_cases h6 : j = 6
      · subst h6; simp
      by_cases h10 : j = 10
      · subst h10; simp
      by_cases h9 : j = 9
      · subst h9; simp
      by_cases h5 : j = 5
      · subst h5; simp
      by_cases h4 : j = 4
      · subst h4; simp [hv]
      by_cases h2 : j = 2
      · subst h2; simp
      simp [h7, h6, h10, h9, h5, h4, h2]
  unfold fX7_begin fX7_begin_15
  rw [zl_e]
  by_cases c0 : k = 0
  · rw [if_pos c0, e21]
    exact ⟨_, rfl, (key 64 (by rw [if_pos (Or.inl c0)])).1, (key 64 (by rw [if_pos (Or.inl c0)])).2, fun _ _ _ => rfl⟩
  rw [if_neg c0]
  by_cases c1 : k = 1
  · rw [if_neg (fun q => q c1), e21]
    exact ⟨_, rfl, (key 64 (by rw [if_pos (Or.inr c1)])).1, (key 64 (by rw [if_pos (Or.inr c1)])).2, fun _ _ _ => rfl⟩
  rw [if_pos c1, e21]
  have hv : (1 : Int32) = (if k = 0 ∨ k = 1 then (64 : Int32) else 1) := by
    rw [if_neg]
    rintro (q | q)
    · exact c0 q
    · exact c1 q
  exact ⟨_, rfl, (key 1 hv).1, (key 1 hv).2, fun _ _ _ => rfl⟩
theorem zDw_note (q : Nat) (kind addr : Int32) : zDw (dNote q kind addr) := by
  have h1 : dl (dNote q kind addr) = 28 := rfl
  have h2 : df (dNote q kind addr) = 0 := rfl
  have h3 : dw (dNote q kind addr) = 28 := rfl
  refine ⟨rfl, rfl, rfl, ?_, ?_, ?_⟩
  · rw [h1, h2, h3]; decide
  · rw [h3]; decide
  · rw [h1]; decide
theorem dNote_l (q : Nat) (kind addr : Int32) : dl (dNote q kind addr) = 28 := rfl
/-- frames other than of parcel x: what changes only other parcels than those of the calendar -/
theorem zQq_cg {z z' : St} {fr : List Fr} {X : List Nat} (hI : ∀ x j, 2 ≤ x → x < 515 → zgI z' 7 j x = zgI z 7 j x) (hA : ∀ x i, 2 ≤ x → x < 515 → zgA z' 125 x i = zgA z 125 x i) (h12 : zgI z' 11 12 0 = zgI z 11 12 0) (h14 : ∀ x, zgR z' 7 14 x = zgR z 7 14 x) (h11 : zgR z' 11 11 0 = zgR z 11 11 0) (h141 : ∀ c, zgQ z' 141 0 c = zgQ z 141 0 c) (h142 : ∀ c, zgQ z' 142 0 c = zgQ z 142 0 c) (h : zQq z fr X) : zQq z' fr X := by
  obtain ⟨Fs, S, hfs, hnd, hin, hlen, hfl, hsp, hcal, hcon⟩ := h
  refine ⟨Fs, S, hfs, hnd, hin, hlen, h12.trans hfl, ?_, ?_, ?_⟩
  · rw [show (fun x => zgR z' 7 14 x) = (fun x => zgR z 7 14 x) from funext h14, h11]; exact hsp
  · rw [show (fun x => zgR z' 7 14 x) = (fun x => zgR z 7 14 x) from funext h14, show (fun c => zgQ z' 141 0 c) = (fun c => zgQ z 141 0 c) from funext h141, show (fun c => zgQ z' 142 0 c) = (fun c => zgQ z 142 0 c) from funext h142]; exact hcal
  · intro f hf
    have := hin f.1 (List.mem_append_left _ (List.mem_map.mpr ⟨f, hf, rfl⟩))
    exact zPC_cg (fun j _ => hI f.1 j this.1 this.2) (fun i => hA f.1 i this.1 this.2) (hcon f hf)
theorem zc_putNote {z : St} {T : Tp} {E : Ev} {g : Sg} {X : List Nat} {q N : Nat} {to kind addr : Int32} (hk : kind ≠ 0 ∧ kind ≠ 1) (hT : zTC z T) (hc : zTc T) (hE : zEc z T E) (hw : zEw T E) (hg : zNd z T g X) (hno : zNo z) (hq : tv T q) (hX : X.length ≤ 1) (hX1 : 1 ∉ X) (hN : 3 < N) :
    ∃ z', fX11_putNote N 0 q to kind addr z = some (0, z') ∧ zNd z' T (nNote E g q to kind addr) X ∧ (∀ u, u ≠ 1 → u < 2 ∨ 515 ≤ u ∨ u ∈ X → (∀ j, zgI z' 7 j u = zgI z 7 j u) ∧ ∀ i, zgA z' 125 u i = zgA z 125 u i) ∧ zNo z' := by
  obtain ⟨q0, q1, q2, q3, q4⟩ := hT.2.2.2 _ hq
  have hnote := hT.1.2.2.2
  obtain ⟨z1, b1, b2, b3, b4⟩ := zc_begin N 1 kind (28 : Int32) z
  have f1 : zFr mX7_begin z z1 := wX7_begin (Nat.and_self _) (zFr_rf _ _) _ _ b1
  let z3 : St := zsI (zsI z1 7 0 1 (zad q)) 7 1 1 addr
  have f3 : zFr (mX7_begin ||| 0x30000000000000000000000000000000000000000000000000000000000000000000000000000000000000000000000000000000000000000) z z3 := zFr_I (zFr_I (zFr_w f1 (by decide)) (by decide)) (by decide)
  have hfin : ∀ j, zgI z3 7 j 1 = if j = 0 then zad q else if j = 1 then addr else zgI z1 7 j 1 := by
    intro j
    show zgI (zsI (zsI z1 7 0 1 (zad q)) 7 1 1 addr) 7 j 1 = _
    simp only [zgI_sI, true_and, and_true]
    by_cases j1 : j = 1
    · subst j1; simp
    · simp [j1]
  have hoth : ∀ k' j o, ¬ (k' = 7 ∧ o = 1) → zgI z3 k' j o = zgI z k' j o := by
    intro k' j o h
    show zgI (zsI (zsI z1 7 0 1 (zad q)) 7 1 1 addr) k' j o = _
    have hn : ∀ a, ¬ (k' = 7 ∧ j = a ∧ o = 1) := fun a y => h ⟨y.1, y.2.2⟩
    simp only [zgI_sI, hn, if_false]
    exact b2 k' j o h
  have hA3 : ∀ k o i, zgA z3 k o i = zgA z k o i := b4
  have hD : zPC 11 z3 1 (dNote q kind addr) := by
    refine ⟨fun j hj h8 => ?_, fun i hi => ?_⟩
    · rw [hfin, b3]
      have : j = 0 ∨ j = 1 ∨ j = 2 ∨ j = 3 ∨ j = 4 ∨ j = 5 ∨ j = 6 ∨ j = 7 ∨ j = 9 ∨ j = 10 := by omega
      rcases this with rfl | rfl | rfl | rfl | rfl | rfl | rfl | rfl | rfl | rfl
      · simp [dNote]
      · simp [dNote]
      · simp [dNote]
      · simp [dNote, hno.1]
      · simp [dNote, hk.1, hk.2]
      · simp [dNote]
      · simp [dNote]
      · simp [dNote]
      · simp [dNote]
      · simp [dNote]
    · rw [hA3, hno.2]; rfl
  have hg3 : zNd z3 T g X := by
    refine ⟨zTr_fr f3 (by decide) hg.1, zCt_fr f3 (by decide) hg.2.1, zQq_cg (fun x j h1 h2 => hoth 7 j x (by omega)) (fun x i _ _ => hA3 125 x i) (hoth 11 12 0 (by simp)) (fun x => zFr_gR f3 (by decide) (by decide) x) (zFr_gR f3 (by decide) (by decide) 0) (fun c => zFr_gQ f3 (by decide) 0 c) (fun c => zFr_gQ f3 (by decide) 0 c) hg.2.2⟩
  have t3 := zTC_fr f3 (by decide) hT
  obtain ⟨z4, e4, d4, k4⟩ := zc_putFrame (N := N) (a := 0) (b := 28) (x := 1) (to := to) t3 hc (zEc_fr f3 (by decide) hE) hw hg3 hq (Or.inl (by omega)) hD (zDw_note q kind addr) (by rw [dNote_l]; decide) (by omega) hX hN
  refine ⟨z4, ?_, d4, fun u hu hu2 => ?_, ?_⟩
  · unfold fX11_putNote
    have n1 : zgR z1 11 14 0 = some 1 := (zFr_gR f1 (by decide) (by decide) 0).trans hnote
    have a4 : zgI z1 8 4 q = zad q := by rw [b2 8 4 q (by simp), q4]
    rw [zl_e, hnote, zd_e, b1, zc_e, zl_e, n1, zd_e, a4, zl_e, zl_e]
    have n2 : zgR (zsI z1 7 0 1 (zad q)) 11 14 0 = some 1 := n1
    rw [n2, zd_e, zl_e, zl_e]
    have n3 : zgR z3 11 14 0 = some 1 := n1
    have e6 : zgI z3 7 6 1 = Int32.ofNat 28 := hD.1 6 (by omega) (by omega)
    show zl (zgR z3 11 14 0) (fun y14 => _) = _
    rw [n3, zl_e, zd_e, zd_e]
    show zc (fX11_putFrame N 0 q to 1 (0 : Int32) (zgI z3 7 6 1) z3) _ = _
    rw [e6]
    have e4 : fX11_putFrame N 0 q to 1 (0 : Int32) (Int32.ofNat 28) z3 = some (0, z4) := e4
    rw [e4, zc_e]
  · obtain ⟨k5, k6⟩ := k4 u hu2
    exact ⟨fun j => (k5 j).trans (hoth 7 j u (fun y => hu y.2)), fun i => (k6 i).trans (hA3 125 u i)⟩
  · obtain ⟨k5, k6⟩ := k4 1 (by omega)
    refine ⟨(k5 3).trans ?_, fun i => (k6 i).trans ((hA3 125 1 i).trans (hno.2 i))⟩
    rw [hfin, b3]
    simpa using hno.1
