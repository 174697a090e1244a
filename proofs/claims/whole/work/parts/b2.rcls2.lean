/-! routers, the class: friends, dues for all, hearing and forgetting -/
def zRCb (z : St) (b : Nat) (Ba : Nat → Option Ad) : Prop := ∀ r, r < 16 → (match Ba r with
  | none => zgA z 100 b r = 0 ∧ zgA z 102 b r = 0
  | some a => zgA z 100 b r = Int32.ofNat a.1 ∧ zgA z 101 b r = Int32.ofNat a.2.1 ∧ zgA z 102 b r = Int32.ofNat a.2.2.length ∧ ∀ i e, a.2.2[i]? = some e → zgA z 104 (b * 16 + r) i = Int32.ofNat (e.1 * 1048576 + e.2.1 * 4096 + e.2.2))
/-- what is so of a base -/
def zBw (Ba : Nat → Option Ad) : Prop := ∀ r a, Ba r = some a → r < 16 ∧ 1 ≤ a.1 ∧ a.1 ≤ 16000000 ∧ a.2.1 ≤ 400000 ∧ a.2.2.length ≤ 24
theorem zRCb_cg {z z' : St} {b : Nat} {Ba : Nat → Option Ad} (h1 : ∀ k i, k = 100 ∨ k = 101 ∨ k = 102 → zgA z' k b i = zgA z k b i) (h2 : ∀ o i, b * 16 ≤ o → o < b * 16 + 16 → zgA z' 104 o i = zgA z 104 o i) (h : zRCb z b Ba) : zRCb z' b Ba := fun r hr => by
  have := h r hr
  cases e : Ba r with
  | none =>
    rw [e] at this
    exact ⟨(h1 100 r (by simp)).trans this.1, (h1 102 r (by simp)).trans this.2⟩
  | some a =>
    rw [e] at this
    exact ⟨(h1 100 r (by simp)).trans this.1, (h1 101 r (by simp)).trans this.2.1, (h1 102 r (by simp)).trans this.2.2.1, fun i en hi => (h2 _ i (by omega) (by omega)).trans (this.2.2.2 i en hi)⟩
theorem zRCb_num {z : St} {b r : Nat} {Ba : Nat → Option Ad} (h : zRCb z b Ba) (hw : zBw Ba) (hr : r < 16) : zgA z 100 b r = 0 ↔ Ba r = none := by
  have := h r hr
  cases e : Ba r with
  | none => rw [e] at this; exact ⟨fun _ => rfl, fun _ => this.1⟩
  | some a =>
    rw [e] at this
    obtain ⟨-, h1, h2, -⟩ := hw r a e
    rw [this.1, zo_0e (by omega)]
    exact ⟨fun y => by omega, fun y => by cases y⟩
/-- a friend, or no more -/
theorem zc_setFriend {z : St} {b key now N : Nat} {H : List Nb} {Ba : Nat → Option Ad} {named : Bool} (h : zRCk z b H) (hH : zHn H) (hB : zRCb z b Ba) (hw : zBw Ba) (h12 : zgR z 9 12 b = some b) (hk : key < 96) (hnow : now ≤ 400000) (hin : (∃ n, n ∈ H ∧ n.1 = key) ∨ named = false) (hN : 16 < N) :
    ∃ z', fX9_setFriend N b (Int32.ofNat key) (zbi named) (Int32.ofNat now) z = some (0, z') ∧ zRCk z' b (hFr H Ba key named now) ∧ zHn (hFr H Ba key named now) ∧ (∀ k j o, ¬ (k = 9 ∧ (j = 5 ∨ j = 10) ∧ o = b) → zgI z' k j o = zgI z k j o) ∧ zgI z' 9 10 b = (if fn H key = named then zgI z 9 10 b else 1) ∧ (∀ k o i, ¬ (k = 135 ∧ b * 96 ≤ o ∧ o < b * 96 + 96) → ¬ (k = 133 ∧ o = b) → zgA z' k o i = zgA z k o i) ∧ zKr b z z' := by
  have hcur := (h.2 key hk).2.1
  have zbi_inj : ∀ x y : Bool, zbi x = zbi y ↔ x = y := by intro x y; cases x <;> cases y <;> decide
  by_cases c : fn H key = named
  · refine ⟨z, ?_, ?_, ?_, fun _ _ _ _ => rfl, by rw [if_pos c], fun _ _ _ _ _ => rfl, zKr_rf _ _⟩
    · unfold fX9_setFriend
      rw [zkk hk (by omega), zoC (by omega), hcur, if_neg (fun y => y ((zbi_inj _ _).mpr c))]
    · unfold hFr; rw [if_pos c]; exact h
    · unfold hFr; rw [if_pos c]; exact hH
  · have hex : ∃ n, n ∈ H ∧ n.1 = key := by
      rcases hin with hin | hin
      · exact hin
      · rw [hin] at c
        have : fn H key = true := by cases e : fn H key with
          | true => rfl
          | false => exact absurd e c
        unfold fn at this
        cases e : hAt H key with
        | none => rw [e] at this; cases this
        | some n => exact ⟨n, hAt_some e⟩
    let f : Nat → Nb → Nb := fun i n => (n.1, n.2.1, named, fun k => if k < i then (if named = true ∧ (Ba k).isSome = true then now else 0) else n.2.2.2 k)
    have hfr : hFr H Ba key named now = hUpd H key (f 16) := by unfold hFr; rw [if_neg c]
    rw [hfr]
    let z1 : St := zsI (zsA z 133 b key (zbi named)) 9 10 b 1
    have R1 : zRCk z1 b (hUpd H key (f 0)) := by
      refine ⟨?_, fun key' hk' => ?_⟩
      · show zgI (zsI (zsA z 133 b key _) 9 10 b 1) 9 5 b = _
        rw [zgI_sI, if_neg (by omega)]
        have : hCnt (hUpd H key (f 0)) = hCnt H := by
          unfold hCnt hUpd
          rw [List.map_map]
          congr 1
          exact List.map_congr_left (fun n _ => by
            show zcnt (fun k => decide ((if n.1 = key then f 0 n else n).2.2.2 k ≠ 0)) 16 = _
            by_cases d : n.1 = key
            · rw [if_pos d]
              exact zcnt_cg (fun j _ => by
                show decide ((if j < 0 then (if named = true ∧ (Ba j).isSome = true then now else 0) else n.2.2.2 j) ≠ 0) = _
                rw [if_neg (by omega)])
            · rw [if_neg d])
        rw [this]; exact h.1
      · obtain ⟨b1, b2, b3⟩ := h.2 key' hk'
        have e1 : fl (hUpd H key (f 0)) key' = fl H key' := fl_upd (by intro _; rfl) (by intro _; rfl) H key'
        have e2 : fn (hUpd H key (f 0)) key' = if key' = key then named else fn H key' := by
          unfold fn
          rw [hAt_upd (f := f 0) (fun _ => rfl)]
          by_cases d : key' = key
          · rw [if_pos d, if_pos d]
            obtain ⟨n, hn, hnk⟩ := hex
            rw [← hnk, hAt_mem hH.1.2.1 hn]; rfl
          · rw [if_neg d, if_neg d]
        have e3 : ∀ k, fd (hUpd H key (f 0)) key' k = fd H key' k := fun k => by
          rw [fd_upd (f := f 0) (fun _ => rfl)]
          by_cases d : key' = key
          · rw [if_pos d, d]
            unfold fd
            cases hAt H key with
            | none => rfl
            | some n =>
              show (if k < 0 then (if named = true ∧ (Ba k).isSome = true then now else 0) else n.2.2.2 k) = _
              rw [if_neg (by omega)]
          · rw [if_neg d]
        have A1 : ∀ k o i, zgA z1 k o i = if k = 133 ∧ o = b ∧ i = key then zbi named else zgA z k o i := fun k o i => by
          show zgA (zsI (zsA z 133 b key _) 9 10 b 1) k o i = _
          rw [zgA_sI, zgA_sA]
        rw [e1, e2]
        refine ⟨by rw [A1, if_neg (by omega)]; exact b1, ?_, fun k hk2 => by rw [A1, if_neg (by omega), e3]; exact b3 k hk2⟩
        rw [A1]
        by_cases d : key' = key
        · rw [if_pos ⟨rfl, rfl, d⟩, if_pos d]
        · rw [if_neg (fun y => d y.2.2), if_neg d]; exact b2
    have I1 : ∀ k j o, ¬ (k = 9 ∧ j = 10 ∧ o = b) → zgI z1 k j o = zgI z k j o := fun k j o n => by
      show zgI (zsI (zsA z 133 b key _) 9 10 b 1) k j o = _
      rw [zgI_sI, if_neg n]; rfl
    have A1 : ∀ k o i, ¬ (k = 133 ∧ o = b) → zgA z1 k o i = zgA z k o i := fun k o i n => by
      show zgA (zsI (zsA z 133 b key _) 9 10 b 1) k o i = _
      rw [zgA_sI, zgA_sA, if_neg (fun y => n ⟨y.1, y.2.1⟩)]
    have K1 : zKr b z z1 := zKr_tr (zKr_A (Or.inr (Or.inr ⟨rfl, by omega⟩))) (zKr_I (Or.inl rfl))
    have loop : ∀ (m i n : Nat) (y : St), i + m = 16 → m < n → zRCk y b (hUpd H key (f i)) → zRCb y b Ba → zgR y 9 12 b = some b → ∃ z', fX9_setFriend_26 N n b (Int32.ofNat key) (zbi named) (Int32.ofNat now) (Int32.ofNat i) y = some (0, z') ∧ zRCk z' b (hUpd H key (f 16)) ∧ (∀ k j o, ¬ (k = 9 ∧ j = 5 ∧ o = b) → zgI z' k j o = zgI y k j o) ∧ (∀ k o i, ¬ (k = 135 ∧ b * 96 ≤ o ∧ o < b * 96 + 96) → zgA z' k o i = zgA y k o i) ∧ zKr b y z' := by
      intro m
      induction m with
      | zero =>
        intro i n y hi hn hR hBy h12y
        obtain ⟨n, rfl⟩ : ∃ k, n = k + 1 := ⟨n - 1, by omega⟩
        have : i = 16 := by omega
        subst this
        refine ⟨y, ?_, hR, fun _ _ _ _ => rfl, fun _ _ _ _ => rfl, zKr_rf _ _⟩
        show fX9_setFriend_26b N (fX9_setFriend_26 N n) b (Int32.ofNat key) (zbi named) (Int32.ofNat now) (Int32.ofNat 16) y = _
        unfold fX9_setFriend_26b
        rw [if_pos (by decide)]
      | succ m ih =>
        intro i n y hi hn hR hBy h12y
        obtain ⟨n, rfl⟩ : ∃ k, n = k + 1 := ⟨n - 1, by omega⟩
        have hHi : zHk (hUpd H key (f i)) := zHk_upd (fun _ => rfl) (fun n hn _ => ⟨(hH.1.1 n hn).2.1, fun k => by
          show (if k < i then (if named = true ∧ (Ba k).isSome = true then now else 0) else n.2.2.2 k) ≤ 400100
          by_cases c1 : k < i
          · rw [if_pos c1]
            by_cases c2 : named = true ∧ (Ba k).isSome = true
            · rw [if_pos c2]; omega
            · rw [if_neg c2]; omega
          · rw [if_neg c1]; exact (hH.1.1 n hn).2.2 k⟩) hH.1
        have hexi : ∃ n, n ∈ hUpd H key (f i) ∧ n.1 = key := by
          obtain ⟨n, hn, hnk⟩ := hex
          exact ⟨f i n, List.mem_map.mpr ⟨n, hn, if_pos hnk⟩, hnk⟩
        obtain ⟨y2, r1, r2, r3, r4, r5⟩ := zc_setDue (N := N) (t := if named = true ∧ (Ba i).isSome = true then now else 0) hR hHi hk (show i < 16 by omega) (by split <;> omega) (Or.inl hexi)
        have enx : hDue (hUpd H key (f i)) key i (if named = true ∧ (Ba i).isSome = true then now else 0) = hUpd H key (f (i + 1)) := by
          unfold hDue hUpd
          rw [List.map_map]
          refine List.map_congr_left (fun n _ => ?_)
          show (if (if n.1 = key then f i n else n).1 = key then ((if n.1 = key then f i n else n).1, (if n.1 = key then f i n else n).2.1, (if n.1 = key then f i n else n).2.2.1, zupd (if n.1 = key then f i n else n).2.2.2 i (if named = true ∧ (Ba i).isSome = true then now else 0)) else (if n.1 = key then f i n else n)) = (if n.1 = key then f (i + 1) n else n)
          by_cases d : n.1 = key
          · rw [if_pos d, if_pos d, if_pos (show (f i n).1 = key from d)]
            show (n.1, n.2.1, named, zupd (fun k => if k < i then (if named = true ∧ (Ba k).isSome = true then now else 0) else n.2.2.2 k) i (if named = true ∧ (Ba i).isSome = true then now else 0)) = (n.1, n.2.1, named, fun k => if k < i + 1 then (if named = true ∧ (Ba k).isSome = true then now else 0) else n.2.2.2 k)
            congr 3
            funext k
            by_cases e : k = i
            · rw [e, zupd_s, if_pos (show i < i + 1 by omega)]
            · rw [zupd_n e]
              by_cases e2 : k < i
              · rw [if_pos e2, if_pos (show k < i + 1 by omega)]
              · rw [if_neg e2, if_neg (show ¬ k < i + 1 by omega)]
          · rw [if_neg d, if_neg d, if_neg d]
        rw [enx] at r2
        obtain ⟨z', s1, s2, s3, s4, s5⟩ := ih (i + 1) n y2 (by omega) (by omega) r2 (zRCb_cg (fun k i hk3 => r4 k b i (by omega)) (fun o i _ _ => r4 104 o i (by omega)) hBy) ((r5.2.2.2.2 9 12 b).trans h12y)
        refine ⟨z', ?_, s2, fun k j o nn => (s3 k j o nn).trans (r3 k j o nn), fun k o i nn => (s4 k o i nn).trans (r4 k o i (fun y => nn ⟨y.1, by omega, by omega⟩)), zKr_tr r5 s5⟩
        show fX9_setFriend_26b N (fX9_setFriend_26 N n) b (Int32.ofNat key) (zbi named) (Int32.ofNat now) (Int32.ofNat i) y = _
        unfold fX9_setFriend_26b
        rw [if_neg (by rw [show (16 : Int32) = Int32.ofNat 16 from rfl, zo_le (by omega) (by omega)]; omega)]
        have c59 : ∀ v : Nat, v = (if named = true ∧ (Ba i).isSome = true then now else 0) → fX9_setFriend_59 N (fX9_setFriend_26 N n) b (Int32.ofNat key) (zbi named) (Int32.ofNat now) (Int32.ofNat i) b (Int32.ofNat key) (Int32.ofNat i) (Int32.ofNat v) y = some (0, z') := fun v hv => by
          unfold fX9_setFriend_59
          rw [hv, r1, zc_e, zl_e, zo_i1]
          exact s1
        cases hnm : named with
        | false =>
          rw [hnm] at c59
          rw [if_pos (show zbi false = 0 from rfl)]
          unfold fX9_setFriend_58
          exact c59 0 (by simp)
        | true =>
          rw [hnm] at c59
          rw [if_neg (show ¬ zbi true = 0 by decide), zl_e, h12y, zd_e, zkk (by omega) (by omega), zoC (by omega)]
          have hnum := zRCb_num hBy hw (show i < 16 by omega)
          cases hb : Ba i with
          | none =>
            rw [if_pos (hnum.mpr hb)]
            unfold fX9_setFriend_58
            exact c59 0 (by simp [hb])
          | some a =>
            rw [if_neg (fun y => by rw [hnum.mp y] at hb; cases hb)]
            exact c59 now (by simp [hb])
    obtain ⟨z', s1, s2, s3, s4, s5⟩ := loop 16 0 N z1 rfl hN R1 (zRCb_cg (fun k i hk3 => A1 k b i (by omega)) (fun o i _ _ => A1 104 o i (by omega)) hB) h12
    refine ⟨z', ?_, s2, ⟨zHk_upd (fun _ => rfl) (fun n hn _ => ⟨(hH.1.1 n hn).2.1, fun k => ?_⟩) hH.1, zHf_upd (fun n hn _ hf k hk' => ?_) hH.2⟩, fun k j o nn => (s3 k j o (fun y => nn ⟨y.1, Or.inl y.2.1, y.2.2⟩)).trans (I1 k j o (fun y => nn ⟨y.1, Or.inr y.2.1, y.2.2⟩)), ?_, fun k o i n1 n2 => (s4 k o i n1).trans (A1 k o i n2), zKr_tr K1 s5⟩
    · unfold fX9_setFriend
      rw [zkk hk (by omega), zoC (by omega), hcur, if_pos (fun y => c ((zbi_inj _ _).mp y)), zkk hk (by omega), zl_e]
      have : vp_nar .boolean (zbi named) = zbi named := by cases named <;> decide
      rw [this, zl_e]
      exact s1
    · show (if k < 16 then (if named = true ∧ (Ba k).isSome = true then now else 0) else n.2.2.2 k) ≤ 400100
      by_cases c1 : k < 16
      · rw [if_pos c1]
        by_cases c2 : named = true ∧ (Ba k).isSome = true
        · rw [if_pos c2]; omega
        · rw [if_neg c2]; omega
      · rw [if_neg c1]; exact (hH.1.1 n hn).2.2 k
    · have hf : named = false := hf
      show (if k < 16 then (if named = true ∧ (Ba k).isSome = true then now else 0) else n.2.2.2 k) = 0
      rw [if_pos hk', if_neg (fun y => by rw [hf] at y; cases y.1)]
    · rw [s3 9 10 b (by omega), if_neg c]
      show zgI (zsI (zsA z 133 b key _) 9 10 b 1) 9 10 b = 1
      rw [zgI_sI, if_pos ⟨rfl, rfl, rfl⟩]
