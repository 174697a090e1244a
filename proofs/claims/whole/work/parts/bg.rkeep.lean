/-! routers: what is so of a router stays so -/
theorem zHn_fr {H : List Nb} {Ba : Nat → Option Ad} {key now : Nat} {named : Bool} (hn : now ≤ 400000) (h : zHn H) : zHn (hFr H Ba key named now) := by
  unfold hFr
  by_cases c : fn H key = named
  · rw [if_pos c]; exact h
  · rw [if_neg c]
    refine ⟨zHk_upd (fun _ => rfl) (fun n hn' _ => ⟨(h.1.1 n hn').2.1, fun k => ?_⟩) h.1, zHf_upd (fun n hn' _ hf k hk => ?_) h.2⟩
    · show (if k < 16 then (if named = true ∧ (Ba k).isSome = true then now else 0) else n.2.2.2 k) ≤ 400100
      have := (h.1.1 n hn').2.2 k
      split
      · split <;> omega
      · exact this
    · show (if k < 16 then (if named = true ∧ (Ba k).isSome = true then now else 0) else n.2.2.2 k) = 0
      have hf : named = false := hf
      rw [if_pos hk, if_neg (by rw [hf]; simp)]
theorem zRw_up {T : Tp} {E : Ev} {b : Nat} {s s' : Rs} (h : zRw T E b s) (hn : zHn (rH s')) (hH : ∀ n, n ∈ rH s' → ((∃ m, m ∈ rH s ∧ n.1 = m.1) ∨ zKok T b n.1) ∧ (1 ≤ n.2.1 ∧ n.2.1 ≤ eN E) ∧ ∀ k, k < 16 → n.2.2.2 k ≠ 0 → (rB s' k).isSome = true) (hT : (rT s').length ≤ 64 ∧ ∀ e, e ∈ rT s' → e ∈ rT s ∨ (zKok T b e.1 ∧ e.2.1 < 16 ∧ e.2.2 ≤ 16000000)) (hb : zBw (rB s')) (hm : rm s' ≤ eN E ∧ ro s' ≤ 16000000 ∧ rh s' ≤ 16000000) : zRw T E b s' := by
  obtain ⟨-, wN, wT, -, -⟩ := h
  refine ⟨hn, fun n h' => ?_, ⟨hT.1, fun e he => ?_⟩, hb, hm⟩
  · obtain ⟨a1, a2, a3⟩ := hH n h'
    have ok : zKok T b n.1 := by
      rcases a1 with ⟨m, m1, m2⟩ | a1
      · obtain ⟨c1, c2, c3, c4, c5, -⟩ := wN m m1
        rw [m2]; exact ⟨c1, c2, c3, c4, c5⟩
      · exact a1
    exact ⟨ok.1, ok.2.1, ok.2.2.1, ok.2.2.2.1, ok.2.2.2.2, a2.1, a2.2, a3⟩
  · rcases hT.2 e he with y | y
    · exact wT.2 e y
    · exact y
theorem hUpd_mem {H : List Nb} {key : Nat} {f : Nb → Nb} {n : Nb} (h : n ∈ hUpd H key f) : ∃ m, m ∈ H ∧ ((m.1 = key ∧ n = f m) ∨ (m.1 ≠ key ∧ n = m)) := by
  obtain ⟨m, hm, e⟩ := List.mem_map.mp h
  by_cases c : m.1 = key
  · rw [if_pos c] at e; exact ⟨m, hm, Or.inl ⟨c, e.symm⟩⟩
  · rw [if_neg c] at e; exact ⟨m, hm, Or.inr ⟨c, e.symm⟩⟩
theorem hUpd_keys {H : List Nb} {key : Nat} {f : Nb → Nb} (hf : ∀ n, (f n).1 = n.1) {m : Nb} (h : m ∈ H) : ∃ n, n ∈ hUpd H key f ∧ n.1 = m.1 := by
  refine ⟨if m.1 = key then f m else m, List.mem_map.mpr ⟨m, h, rfl⟩, ?_⟩
  split
  · exact hf m
  · rfl
theorem hAll_mem {H : List Nb} {r now : Nat} {but : Option Nat} {n : Nb} (h : n ∈ hAll H r but now) : ∃ m, m ∈ H ∧ n.1 = m.1 ∧ n.2.1 = m.2.1 ∧ ∀ k, n.2.2.2 k = m.2.2.2 k ∨ k = r := by
  obtain ⟨m, hm, e⟩ := List.mem_map.mp h
  by_cases c : some m.1 = but ∨ m.2.2.1 = false
  · rw [if_pos c] at e; rw [← e]; exact ⟨m, hm, rfl, rfl, fun _ => Or.inl rfl⟩
  · rw [if_neg c] at e; rw [← e]
    refine ⟨m, hm, rfl, rfl, fun k => ?_⟩
    by_cases d : k = r
    · exact Or.inr d
    · exact Or.inl (zupd_n d)
theorem hAll_keys {H : List Nb} {r now : Nat} {but : Option Nat} {m : Nb} (h : m ∈ H) : ∃ n, n ∈ hAll H r but now ∧ n.1 = m.1 := ⟨_, List.mem_map.mpr ⟨m, h, rfl⟩, by split <;> rfl⟩
theorem hDue_mem {H : List Nb} {key r t : Nat} {n : Nb} (h : n ∈ hDue H key r t) : ∃ m, m ∈ H ∧ n.1 = m.1 ∧ n.2.1 = m.2.1 ∧ ∀ k, n.2.2.2 k = m.2.2.2 k ∨ (k = r ∧ n.2.2.2 k = t) := by
  obtain ⟨m, hm, ⟨-, e⟩ | ⟨-, e⟩⟩ := hUpd_mem h
  · rw [e]
    refine ⟨m, hm, rfl, rfl, fun k => ?_⟩
    show zupd m.2.2.2 r t k = _ ∨ (k = r ∧ zupd m.2.2.2 r t k = t)
    by_cases d : k = r
    · right; rw [d, zupd_s]; exact ⟨rfl, rfl⟩
    · left; exact zupd_n d
  · rw [e]; exact ⟨m, hm, rfl, rfl, fun _ => Or.inl rfl⟩
theorem bNum_some {Ba : Nat → Option Ad} {r : Nat} (h : 0 < bNum Ba r) : (Ba r).isSome = true := by
  unfold bNum at h
  cases e : Ba r with
  | none => rw [e] at h; exact absurd h (Nat.lt_irrefl 0)
  | some a => rfl
/-- a thanking -/
theorem zRw_thk {T : Tp} {E : Ev} {b key of_ num : Nat} {s : Rs} (hE : eN E ≤ 400000) (h : zRw T E b s) : zRw T E b (rThk key of_ num s) := by
  unfold rThk
  by_cases c : bNum (rB s) of_ = num
  · rw [if_pos c]
    refine zRw_up h (zHn_due (by omega) (Or.inr rfl) h.1) (fun n hn => ?_) ⟨h.2.2.1.1, fun e he => Or.inl he⟩ h.2.2.2.1 h.2.2.2.2
    obtain ⟨m, m1, m2, m3, m4⟩ := hDue_mem hn
    obtain ⟨-, -, -, -, -, w6, w7, w8⟩ := h.2.1 m m1
    refine ⟨Or.inl ⟨m, m1, m2⟩, by rw [m3]; exact ⟨w6, w7⟩, fun k hk hne => ?_⟩
    rcases m4 k with y | ⟨-, y⟩
    · rw [y] at hne; exact w8 k hk hne
    · exact absurd y hne
  · rw [if_neg c]; exact h
/-- an advert -/
theorem zRw_adm {T : Tp} {E : Ev} {b key of_ num : Nat} {L : List En} {s : Rs} (hE : eN E ≤ 400000) (ho : of_ < 16) (hn1 : 1 ≤ num) (hn : num ≤ 16000000) (hL : zEn L) (h : zRw T E b s) : zRw T E b (rAdm b key of_ num L (eN E) s) := by
  unfold rAdm
  by_cases cf : fn (rH s) key = false
  · rw [if_pos cf]; exact h
  have cf : fn (rH s) key = true := by simpa using cf
  rw [if_neg (by rw [cf]; simp)]
  obtain ⟨wH, wN, wT, wB, wm⟩ := id h
  have hex : ∃ n, n ∈ rH s ∧ n.1 = key := by
    unfold fn at cf
    cases e : hAt (rH s) key with
    | none => rw [e] at cf; cases cf
    | some n => exact ⟨n, hAt_some e⟩
  have kok : zKok T b key := by
    obtain ⟨n, n1, n2⟩ := hex
    obtain ⟨c1, c2, c3, c4, c5, -⟩ := wN n n1
    rw [← n2]; exact ⟨c1, c2, c3, c4, c5⟩
  have thx : (rThx s (key, of_, num)).length ≤ 64 ∧ ∀ e, e ∈ rThx s (key, of_, num) → e ∈ rT s ∨ (zKok T b e.1 ∧ e.2.1 < 16 ∧ e.2.2 ≤ 16000000) := by
    unfold rThx
    by_cases c : (rT s).length < 64
    · rw [if_pos c]
      refine ⟨by rw [List.length_append]; simp; omega, fun e he => ?_⟩
      rcases List.mem_append.mp he with y | y
      · exact Or.inl y
      · have : e = (key, of_, num) := by simpa using y
        rw [this]; exact Or.inr ⟨kok, ho, hn⟩
    · rw [if_neg c]; exact ⟨wT.1, fun e he => Or.inl he⟩
  by_cases c : num ≤ bNum (rB s) of_ ∨ of_ = b
  · rw [if_pos c]
    have hd : zHn (hDue (rH s) key of_ (if num < bNum (rB s) of_ then eN E else 0)) := zHn_due (by split <;> omega) (Or.inl cf) wH
    refine zRw_up h hd (fun n hn' => ?_) thx wB ⟨wm.1, wm.2.1, ?_⟩
    · obtain ⟨m, m1, m2, m3, m4⟩ := hDue_mem hn'
      obtain ⟨-, -, -, -, -, w6, w7, w8⟩ := wN m m1
      refine ⟨Or.inl ⟨m, m1, m2⟩, by rw [m3]; exact ⟨w6, w7⟩, fun k hk hne => ?_⟩
      rcases m4 k with y | ⟨y1, y⟩
      · rw [y] at hne; exact w8 k hk hne
      · by_cases d : num < bNum (rB s) of_
        · rw [y1]; exact bNum_some (Ba := rB s) (show 0 < bNum (rB s) of_ by omega)
        · rw [if_neg d] at y; exact absurd y hne
    · show (if of_ = b then max (rh s) num else rh s) ≤ 16000000
      have := wm.2.2
      split <;> omega
  · rw [if_neg c]
    have hd : zHn (hAll (hDue (rH s) key of_ 0) of_ (some key) (eN E)) := zHn_all (by omega) (zHn_due (by omega) (Or.inr rfl) wH)
    refine zRw_up h hd (fun n hn' => ?_) thx (fun r a ha => ?_) wm
    · obtain ⟨m0, a1, a2, a3, a4⟩ := hAll_mem hn'
      obtain ⟨m, m1, m2, m3, m4⟩ := hDue_mem a1
      obtain ⟨-, -, -, -, -, w6, w7, w8⟩ := wN m m1
      refine ⟨Or.inl ⟨m, m1, a2.trans m2⟩, by rw [a3, m3]; exact ⟨w6, w7⟩, fun k hk hne => ?_⟩
      show (bSet (rB s) of_ (some (num, eN E, L)) k).isSome = true
      unfold bSet
      by_cases d : k = of_
      · rw [if_pos d]; rfl
      · rw [if_neg d]
        rcases a4 k with y | y
        · rcases m4 k with y' | ⟨y', -⟩
          · rw [y, y'] at hne; exact w8 k hk hne
          · exact absurd y' d
        · exact absurd y d
    · have ha : bSet (rB s) of_ (some (num, eN E, L)) r = some a := ha
      unfold bSet at ha
      by_cases d : r = of_
      · rw [if_pos d] at ha
        rw [← Option.some.inj ha, d]
        exact ⟨ho, hn1, hn, hE, hL.1⟩
      · rw [if_neg d] at ha
        exact wB r a ha
/-- a greeting -/
theorem zRw_gr {T : Tp} {E : Ev} {b key : Nat} {nm : Bool} {s : Rs} (hE1 : 1 ≤ eN E) (hE : eN E ≤ 400000) (hk : zKok T b key) (hk96 : key < 96) (h : zRw T E b s) : zRw T E b (rGr (rH s) (rB s) key nm (eN E), s.2) := by
  obtain ⟨wH, wN, wT, wB, wm⟩ := id h
  -- a row in which only key's hearing may be amiss
  have go : ∀ H0 : List Nb, zHn H0 → (∀ n, n ∈ H0 → ((∃ m, m ∈ rH s ∧ n.1 = m.1) ∨ zKok T b n.1) ∧ (n.1 ≠ key → 1 ≤ n.2.1 ∧ n.2.1 ≤ eN E) ∧ ∀ k, k < 16 → n.2.2.2 k ≠ 0 → (rB s k).isSome = true) → (∀ m, m ∈ rH s → ∃ n, n ∈ H0 ∧ n.1 = m.1) → zRw T E b (hFr (hLast H0 key (eN E)) (rB s) key nm (eN E), s.2) := fun H0 h0 h1 h2 => by
    have hl : zHn (hLast H0 key (eN E)) := zHn_last hE h0
    have lm : ∀ n, n ∈ hLast H0 key (eN E) → ((∃ m, m ∈ rH s ∧ n.1 = m.1) ∨ zKok T b n.1) ∧ (1 ≤ n.2.1 ∧ n.2.1 ≤ eN E) ∧ ∀ k, k < 16 → n.2.2.2 k ≠ 0 → (rB s k).isSome = true := fun n hn => by
      obtain ⟨m, hm, ⟨-, e⟩ | ⟨c, e⟩⟩ := hUpd_mem hn
      · obtain ⟨a1, -, a3⟩ := h1 m hm
        rw [e]; exact ⟨a1, ⟨hE1, Nat.le_refl _⟩, a3⟩
      · obtain ⟨a1, a2, a3⟩ := h1 m hm
        rw [e]; exact ⟨a1, a2 c, a3⟩
    have lk : ∀ m, m ∈ rH s → ∃ n, n ∈ hLast H0 key (eN E) ∧ n.1 = m.1 := fun m hm => by
      obtain ⟨n, n1, n2⟩ := h2 m hm
      obtain ⟨n', n3, n4⟩ := hUpd_keys (H := H0) (key := key) (f := fun n => (n.1, eN E, n.2.2)) (by intro _; rfl) n1
      exact ⟨n', n3, n4.trans n2⟩
    refine zRw_up h (zHn_fr hE hl) (fun n hn => ?_) ⟨wT.1, fun e he => Or.inl he⟩ wB wm
    · have hn : n ∈ hFr (hLast H0 key (eN E)) (rB s) key nm (eN E) := hn
      unfold hFr at hn
      by_cases c : fn (hLast H0 key (eN E)) key = nm
      · rw [if_pos c] at hn; exact lm n hn
      · rw [if_neg c] at hn
        obtain ⟨m, hm, ⟨-, e⟩ | ⟨-, e⟩⟩ := hUpd_mem hn
        · obtain ⟨a1, a2, a3⟩ := lm m hm
          rw [e]
          refine ⟨a1, a2, fun k hk' hne => ?_⟩
          have hne : (if k < 16 then (if nm = true ∧ (rB s k).isSome = true then eN E else 0) else m.2.2.2 k) ≠ 0 := hne
          rw [if_pos hk'] at hne
          by_cases d : nm = true ∧ (rB s k).isSome = true
          · exact d.2
          · rw [if_neg d] at hne; exact absurd rfl hne
        · rw [e]; exact lm m hm
  unfold rGr
  by_cases c : (hAt (rH s) key).isSome = true
  · rw [if_pos c]
    exact go _ wH (fun n hn => ⟨Or.inl ⟨n, hn, rfl⟩, fun _ => ⟨(wN n hn).2.2.2.2.2.1, (wN n hn).2.2.2.2.2.2.1⟩, (wN n hn).2.2.2.2.2.2.2⟩) (fun m hm => ⟨m, hm, rfl⟩)
  · rw [if_neg c]
    by_cases c16 : (rH s).length = 16
    · rw [if_pos c16]; exact h
    · rw [if_neg c16]
      have hno : ∀ m, m ∈ rH s → m.1 ≠ key := hAt_none.mp (by
        cases e : hAt (rH s) key with
        | none => rfl
        | some n => rw [e] at c; exact absurd rfl c)
      have hl := wH.1.2.2
      refine go _ (zHn_ins (by omega) hk96 hno wH) (fun n hn => ?_) (fun m hm => ⟨m, hIns_mem.mpr (Or.inr hm), rfl⟩)
      rcases hIns_mem.mp hn with y | y
      · rw [y]; exact ⟨Or.inr hk, fun y => absurd rfl y, fun k _ hne => absurd rfl hne⟩
      · exact ⟨Or.inl ⟨n, y, rfl⟩, fun _ => ⟨(wN n y).2.2.2.2.2.1, (wN n y).2.2.2.2.2.2.1⟩, (wN n y).2.2.2.2.2.2.2⟩
