/-! routers, the model: its ports' nets are looked at -/
theorem zbi_e (x y : Bool) : zbi x = zbi y ↔ x = y := by cases x <;> cases y <;> decide
theorem zm_nbPorts {w : St} {T : Tp} {E : Ev} {b N : Nat} {now : Int32} (hT : zTM w T) (hc : zTc T) (hE : zEm w T E) (hb : b < tb T) : ∀ (m i nn : Nat) (y : St), i + m = tp T b → m < nn → (zgI y 12 24 b = 0 ∨ zgI y 12 24 b = 1) → (zgI y 12 23 b = 0 ∨ zgI y 12 23 b = 1) →
    (∀ k j o, ¬ (k = 12 ∧ (j = 23 ∨ j = 24) ∧ o = b) → ¬ (k = 18 ∧ j = 5 ∧ ∃ i, i < tp T b ∧ o = tq T b i) → zgI y k j o = zgI w k j o) → (∀ k o j, zgA y k o j = zgA w k o j) → (∀ k o j, zgL y k o j = zgL w k o j) → (∀ k o j, zgQ y k o j = zgQ w k o j) → (∀ k o j, zgR y k o j = zgR w k o j) → (∀ j, j < i → zgI y 18 5 (tq T b j) = zbi (eU E (tq T b j / 8))) →
    ∃ y', fX19_neighbours_2 N nn b now (Int32.ofNat i) y = fX19_neighbours_96 N N b now (0 : Int32) y' ∧ (∀ j, j < tp T b → zgI y' 18 5 (tq T b j) = zbi (eU E (tq T b j / 8))) ∧ ((zgI y' 12 24 b = zgI y 12 24 b ∧ ∀ j, i ≤ j → j < tp T b → zgI y 18 5 (tq T b j) = zbi (eU E (tq T b j / 8))) ∨ zgI y' 12 24 b = 1) ∧ ((zgI y' 12 23 b = zgI y 12 23 b ∧ ∀ j, i ≤ j → j < tp T b → zgI y 18 5 (tq T b j) = zbi (eU E (tq T b j / 8))) ∨ zgI y' 12 23 b = 1) ∧
    (∀ k j o, ¬ (k = 12 ∧ (j = 23 ∨ j = 24) ∧ o = b) → ¬ (k = 18 ∧ j = 5 ∧ ∃ i, i < tp T b ∧ o = tq T b i) → zgI y' k j o = zgI w k j o) ∧ (∀ k o j, zgA y' k o j = zgA w k o j) ∧ (∀ k o j, zgL y' k o j = zgL w k o j) ∧ (∀ k o j, zgQ y' k o j = zgQ w k o j) ∧ (∀ k o j, zgR y' k o j = zgR w k o j) := by
  have ht6 := tp_le hc hb
  intro m
  induction m with
  | zero =>
    intro i nn y hi hn f24 f23 yI yA yL yQ yR yP
    obtain ⟨nn, rfl⟩ : ∃ k, nn = k + 1 := ⟨nn - 1, by omega⟩
    have e3 : zgI y 12 3 b = Int32.ofNat (tp T b) := (yI 12 3 b (by omega) (by omega)).trans (hT.2.1.2 _ hb).2.2.2.1
    refine ⟨y, ?_, fun j hj => yP j (by omega), Or.inl ⟨rfl, fun j h1 h2 => by omega⟩, Or.inl ⟨rfl, fun j h1 h2 => by omega⟩, yI, yA, yL, yQ, yR⟩
    show fX19_neighbours_2b N (fX19_neighbours_2 N nn) b now (Int32.ofNat i) y = _
    unfold fX19_neighbours_2b
    rw [e3, if_pos (by rw [zo_le (by omega) (by omega)]; omega)]
  | succ m ih =>
    intro i nn y hi hn f24 f23 yI yA yL yQ yR yP
    obtain ⟨nn, rfl⟩ : ∃ k, nn = k + 1 := ⟨nn - 1, by omega⟩
    have hil : i < tp T b := by omega
    have hv := tv_q hc hb hil
    have e3 : zgI y 12 3 b = Int32.ofNat (tp T b) := (yI 12 3 b (by omega) (by omega)).trans (hT.2.1.2 _ hb).2.2.2.1
    have q147 : zgQ y 147 b i = some (tq T b i) := (yQ _ _ _).trans ((hT.2.1.2 _ hb).2.2.2.2 _ hil)
    generalize hq : tq T b i = q at *
    have r2 : ∀ y' : St, (∀ k o j, zgR y' k o j = zgR w k o j) → zgR y' 18 2 q = some (q / 8) := fun y' h => (h _ _ _).trans (hT.2.2.2 _ hv).2.1
    have n3 : zgI y 16 3 (q / 8) = zbi (eU E (q / 8)) := (yI 16 3 _ (by omega) (by omega)).trans (hE.2 _ hv.1).2.2
    let u : Int32 := zbi (eU E (q / 8))
    let a : Int32 := if zgI y 18 5 q = u then zgI y 12 24 b else 1
    let c : Int32 := if zgI y 18 5 q = u then zgI y 12 23 b else 1
    have ha : a = 0 ∨ a = 1 := by
      show (if zgI y 18 5 q = u then zgI y 12 24 b else 1) = 0 ∨ (if zgI y 18 5 q = u then zgI y 12 24 b else 1) = 1
      split
      · exact f24
      · exact Or.inr rfl
    have hcc : c = 0 ∨ c = 1 := by
      show (if zgI y 18 5 q = u then zgI y 12 23 b else 1) = 0 ∨ (if zgI y 18 5 q = u then zgI y 12 23 b else 1) = 1
      split
      · exact f23
      · exact Or.inr rfl
    let y1 : St := zsI y 12 24 b a
    let y2 : St := zsI y1 12 23 b c
    let y3 : St := zsI y2 18 5 q u
    have I3 : ∀ k j o, zgI y3 k j o = if k = 18 ∧ j = 5 ∧ o = q then u else if k = 12 ∧ j = 23 ∧ o = b then c else if k = 12 ∧ j = 24 ∧ o = b then a else zgI y k j o := fun k j o => by
      show zgI (zsI (zsI (zsI y 12 24 b a) 12 23 b c) 18 5 q u) k j o = _
      rw [zgI_sI, zgI_sI, zgI_sI]
    have s74 : ∀ v : Int32, v = c → fX19_neighbours_74 N (fX19_neighbours_2 N nn) b now (Int32.ofNat i) (some q) b v y1 = fX19_neighbours_2 N nn b now (Int32.ofNat (i + 1)) y3 := fun v hv' => by
      unfold fX19_neighbours_74
      have e1 : zgI (zsI y1 12 23 b c) 16 3 (q / 8) = u := by
        show zgI (zsI (zsI y 12 24 b a) 12 23 b c) 16 3 (q / 8) = u
        rw [zgI_sI, if_neg (by omega), zgI_sI, if_neg (by omega)]; exact n3
      have e2 : zgR (zsI y1 12 23 b c) 18 2 q = some (q / 8) := r2 _ yR
      have hu : u = 0 ∨ u = 1 := by
        show zbi (eU E (q / 8)) = 0 ∨ zbi (eU E (q / 8)) = 1
        cases eU E (q / 8) <;> simp [zbi]
      rw [hv', zq_e hcc, zl_e, zd_e, e2, zl_e, zd_e, e1, zq_e hu, zl_e, zo_i1, zl_e]
    have s44 : ∀ v : Int32, v = a → fX19_neighbours_44 N (fX19_neighbours_2 N nn) b now (Int32.ofNat i) (some q) b v y = fX19_neighbours_2 N nn b now (Int32.ofNat (i + 1)) y3 := fun v hv' => by
      unfold fX19_neighbours_44
      rw [hv', zq_e ha, zl_e]
      have e1 : zgI y1 12 23 b = zgI y 12 23 b := by
        show zgI (zsI y 12 24 b a) 12 23 b = _
        rw [zgI_sI, if_neg (by omega)]
      have e2 : zgI y1 18 5 q = zgI y 18 5 q := by
        show zgI (zsI y 12 24 b a) 18 5 q = _
        rw [zgI_sI, if_neg (by omega)]
      have e4 : zgI y1 16 3 (q / 8) = u := by
        show zgI (zsI y 12 24 b a) 16 3 (q / 8) = u
        rw [zgI_sI, if_neg (by omega)]; exact n3
      have s69 : c = 1 → fX19_neighbours_69 N (fX19_neighbours_2 N nn) b now (Int32.ofNat i) (some q) b y1 = fX19_neighbours_2 N nn b now (Int32.ofNat (i + 1)) y3 := fun h => s74 1 h.symm
      show (if ¬ zgI y1 12 23 b = 0 then fX19_neighbours_69 N (fX19_neighbours_2 N nn) b now (Int32.ofNat i) (some q) b y1 else zd (some q) fun a4 => zl (zgR y1 18 2 a4) fun y5 => zd y5 fun a6 => if (zgI y1 18 5 a4) = (zgI y1 16 3 a6) then (fX19_neighbours_74 N (fX19_neighbours_2 N nn) b now (Int32.ofNat i) (some a4) b (0 : Int32) y1) else (fX19_neighbours_69 N (fX19_neighbours_2 N nn) b now (Int32.ofNat i) (some a4) b y1)) = _
      rw [e1]
      by_cases z0 : zgI y 12 23 b = 0
      · rw [if_neg (fun h => h z0), zd_e, r2 y1 yR, zl_e, zd_e, e2, e4]
        by_cases d : zgI y 18 5 q = u
        · rw [if_pos d]
          exact s74 0 (by show 0 = (if zgI y 18 5 q = u then zgI y 12 23 b else 1); rw [if_pos d, z0])
        · rw [if_neg d]
          exact s69 (if_neg d)
      · rw [if_pos z0]
        refine s69 ?_
        show (if zgI y 18 5 q = u then zgI y 12 23 b else 1) = 1
        split
        · rcases f23 with h | h
          · exact absurd h z0
          · exact h
        · rfl
    have run : fX19_neighbours_2 N (nn + 1) b now (Int32.ofNat i) y = fX19_neighbours_2 N nn b now (Int32.ofNat (i + 1)) y3 := by
      show fX19_neighbours_2b N (fX19_neighbours_2 N nn) b now (Int32.ofNat i) y = _
      unfold fX19_neighbours_2b
      have s39 : a = 1 → fX19_neighbours_39 N (fX19_neighbours_2 N nn) b now (Int32.ofNat i) (some q) b y = fX19_neighbours_2 N nn b now (Int32.ofNat (i + 1)) y3 := fun h => s44 1 h.symm
      rw [e3, if_neg (by rw [zo_le (by omega) (by omega)]; omega), zkk (by omega) (by omega), zl_e, zoC (by omega), q147]
      by_cases z0 : zgI y 12 24 b = 0
      · rw [if_neg (fun h => h z0), zd_e, r2 y yR, zl_e, zd_e, n3]
        by_cases d : zgI y 18 5 q = u
        · rw [if_pos d]
          exact s44 0 (by show 0 = (if zgI y 18 5 q = u then zgI y 12 24 b else 1); rw [if_pos d, z0])
        · rw [if_neg d]
          exact s39 (if_neg d)
      · rw [if_pos z0]
        refine s39 ?_
        show (if zgI y 18 5 q = u then zgI y 12 24 b else 1) = 1
        split
        · rcases f24 with h | h
          · exact absurd h z0
          · exact h
        · rfl
    have g24 : zgI y3 12 24 b = a := by rw [I3, if_neg (by omega), if_neg (by omega), if_pos ⟨rfl, rfl, rfl⟩]
    have g23 : zgI y3 12 23 b = c := by rw [I3, if_neg (by omega), if_pos ⟨rfl, rfl, rfl⟩]
    have other : ∀ j, j ≠ i → j < tp T b → zgI y3 18 5 (tq T b j) = zgI y 18 5 (tq T b j) := fun j h1 h2 => by
      have : tq T b j ≠ q := fun h => by
        have t1 := (hc.2.2.2.2.2.2.1 b j hb h2).2.2
        have t2 := (hc.2.2.2.2.2.2.1 b i hb hil).2.2
        rw [hq, ← h, t1] at t2
        exact h1 t2
      rw [I3, if_neg (fun h => this h.2.2), if_neg (by omega), if_neg (by omega)]
    obtain ⟨y', t1, t2, t3, t4, t5⟩ := ih (i + 1) nn y3 (by omega) (by omega) (by rw [g24]; exact ha) (by rw [g23]; exact hcc) (fun k j o h1 h2 => by
      rw [I3, if_neg (fun h => h2 ⟨h.1, h.2.1, i, hil, by rw [hq]; exact h.2.2⟩), if_neg (fun h => h1 ⟨h.1, Or.inl h.2.1, h.2.2⟩), if_neg (fun h => h1 ⟨h.1, Or.inr h.2.1, h.2.2⟩)]
      exact yI k j o h1 h2) yA yL yQ yR (fun j hj => by
      by_cases e : j = i
      · rw [e, hq, I3, if_pos ⟨rfl, rfl, rfl⟩]
      · rw [other j e (by omega)]; exact yP j (by omega))
    have fl : ∀ (v v' : Int32) (k : Nat), (zgI y' 12 k b = (if zgI y 18 5 q = u then v else 1) ∧ ∀ j, i + 1 ≤ j → j < tp T b → zgI y3 18 5 (tq T b j) = zbi (eU E (tq T b j / 8))) ∨ zgI y' 12 k b = 1 → (zgI y' 12 k b = v ∧ ∀ j, i ≤ j → j < tp T b → zgI y 18 5 (tq T b j) = zbi (eU E (tq T b j / 8))) ∨ zgI y' 12 k b = 1 := fun v _ k h => by
      rcases h with ⟨h1, h2⟩ | h
      · by_cases d : zgI y 18 5 q = u
        · left
          rw [if_pos d] at h1
          refine ⟨h1, fun j j1 j2 => ?_⟩
          by_cases e : j = i
          · rw [e, hq]; exact d
          · rw [← other j e j2]; exact h2 j (by omega) j2
        · right
          rw [if_neg d] at h1; exact h1
      · exact Or.inr h
    exact ⟨y', run.trans t1, t2, fl (zgI y 12 24 b) 0 24 (by rw [g24] at t3; exact t3), fl (zgI y 12 23 b) 0 23 (by rw [g23] at t4; exact t4), t5⟩
