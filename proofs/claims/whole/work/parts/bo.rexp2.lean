/-! routers: old adverts are taken out, the spec and the class -/
def rEx (now r : Nat) (s : Rs) : Rs := match rB s r with
  | some a => if a.2.1 + 5000 ≤ now then (hNo (rH s) r, rT s, bSet (rB s) r none, s.2.2.2) else s
  | none => s
def rExs (now : Nat) : Nat → Nat → Rs → Rs
  | _, 0, s => s
  | i, m + 1, s => rExs now (i + 1) m (rEx now i s)
theorem hNo_mem {H : List Nb} {r : Nat} {n : Nb} (h : n ∈ hNo H r) : ∃ m, m ∈ H ∧ n.1 = m.1 ∧ n.2.1 = m.2.1 ∧ ∀ k, n.2.2.2 k ≠ 0 → k ≠ r ∧ m.2.2.2 k ≠ 0 := by
  obtain ⟨m, hm, e⟩ := List.mem_map.mp h
  rw [← e]
  refine ⟨m, hm, rfl, rfl, fun k hk => ?_⟩
  have hk : zupd m.2.2.2 r 0 k ≠ 0 := hk
  by_cases c : k = r
  · rw [c, zupd_s] at hk; exact absurd rfl hk
  · rw [zupd_n c] at hk; exact ⟨c, hk⟩
theorem zRw_ex {T : Tp} {E : Ev} {b now r : Nat} {s : Rs} (h : zRw T E b s) : zRw T E b (rEx now r s) := by
  unfold rEx
  cases e : rB s r with
  | none => exact h
  | some a =>
    show zRw T E b (if a.2.1 + 5000 ≤ now then (hNo (rH s) r, rT s, bSet (rB s) r none, s.2.2.2) else s)
    by_cases c : a.2.1 + 5000 ≤ now
    · rw [if_pos c]
      refine zRw_up h (zHn_no h.1) (fun n hn => ?_) ⟨h.2.2.1.1, fun e he => Or.inl he⟩ (fun k a' ha => ?_) h.2.2.2.2
      · obtain ⟨m, m1, m2, m3, m4⟩ := hNo_mem hn
        obtain ⟨-, -, -, -, -, w6, w7, w8⟩ := h.2.1 m m1
        refine ⟨Or.inl ⟨m, m1, m2⟩, by rw [m3]; exact ⟨w6, w7⟩, fun k hk hne => ?_⟩
        obtain ⟨c1, c2⟩ := m4 k hne
        show (bSet (rB s) r none k).isSome = true
        unfold bSet
        rw [if_neg c1]; exact w8 k hk c2
      · have ha : bSet (rB s) r none k = some a' := ha
        unfold bSet at ha
        by_cases d : k = r
        · rw [if_pos d] at ha; cases ha
        · rw [if_neg d] at ha; exact h.2.2.2.1 k a' ha
    · rw [if_neg c]; exact h
theorem zc_exEnd {z : St} {b N : Nat} {K K' : Nat → Nat → Nat → Option Nat → Int32 → St → Option (Int32 × St)} : fX11_doRouter_47b N K 0 b b (some b) (Int32.ofNat 16) z = fX11_doRouter_47b N K' 0 b b (some b) (Int32.ofNat 16) z := by
  unfold fX11_doRouter_47b
  rw [if_pos (by decide), if_pos (by decide)]
/-- one router's, the class -/
theorem zc_ex1 {z : St} {T : Tp} {E : Ev} {b i N : Nat} {K : Nat → Nat → Nat → Option Nat → Int32 → St → Option (Int32 × St)} {s : Rs} (hE : zgI z 11 4 0 = Int32.ofNat (eN E)) (hE4 : eN E ≤ 400000) (hi : i < 16) (hR : zRcl z b s) (hw : zRw T E b s) (hold : ∀ r a, rB s r = some a → a.2.1 ≤ eN E) (hN : 16 < N) :
    ∃ z', fX11_doRouter_47b N K 0 b b (some b) (Int32.ofNat i) z = K 0 b b (some b) (Int32.ofNat (i + 1)) z' ∧ zRcl z' b (rEx (eN E) i s) ∧ (∀ k j o, ¬ (k = 9 ∧ j = 5 ∧ o = b) → ¬ (k = 0 ∧ j = 9 ∧ o = b) → zgI z' k j o = zgI z k j o) ∧ ((zgI z' 0 9 b = zgI z 0 9 b ∧ rB (rEx (eN E) i s) = rB s) ∨ zgI z' 0 9 b = 1) ∧ zKr b z z' := by
  obtain ⟨cH, cK, cT, cB, c7, c8⟩ := id hR
  have hb := cB i hi
  unfold fX11_doRouter_47b
  rw [if_neg (by rw [show (16 : Int32) = Int32.ofNat 16 from rfl, zo_le (by omega) (by omega)]; omega), zd_e, zkk hi (by omega), zoC (by omega)]
  have skip : fX11_doRouter_97 N K 0 b b b (Int32.ofNat i) z = K 0 b b (some b) (Int32.ofNat (i + 1)) z := by
    unfold fX11_doRouter_97
    rw [zo_i1, zl_e]
  cases e : rB s i with
  | none =>
    rw [e] at hb
    have eR : rEx (eN E) i s = s := by unfold rEx; rw [e]
    rw [eR, if_pos hb.1]
    exact ⟨z, skip, hR, fun _ _ _ _ _ => rfl, Or.inl ⟨rfl, rfl⟩, zKr_rf _ _⟩
  | some a =>
    rw [e] at hb
    obtain ⟨b1, b2, -, -⟩ := hb
    obtain ⟨-, w1, w2, -, -⟩ := hw.2.2.2.1 i a e
    have hl := hold i a e
    rw [b1, if_neg (by rw [show (0 : Int32) = Int32.ofNat 0 from rfl, zo_eq (by omega) (by omega)]; omega), zkk hi (by omega), hE, b2, zo_sub hl]
    by_cases c : a.2.1 + 5000 ≤ eN E
    · have eR : rEx (eN E) i s = (hNo (rH s) i, rT s, bSet (rB s) i none, s.2.2.2) := by unfold rEx; rw [e]; exact if_pos c
      rw [if_pos (by rw [show (5000 : Int32) = Int32.ofNat 5000 from rfl, zo_le (by omega) (by omega)]; omega), eR]
      let z1 : St := zsI (zsA (zsA z 100 b i 0) 102 b i 0) 0 9 b 1
      have run1 : fX0_takeOut N b (Int32.ofNat i) z = some (0, z1) := by
        unfold fX0_takeOut
        rw [zkk hi (by omega), zoC (by omega), zl_e, zkk hi (by omega), zl_e, zl_e]
      have I1 : ∀ k j o, ¬ (k = 0 ∧ j = 9 ∧ o = b) → zgI z1 k j o = zgI z k j o := fun k j o n => by
        show zgI (zsI (zsA (zsA z 100 b i 0) 102 b i 0) 0 9 b 1) k j o = _
        rw [zgI_sI, if_neg n]; rfl
      have A1 : ∀ k o j, zgA z1 k o j = if k = 102 ∧ o = b ∧ j = i then 0 else if k = 100 ∧ o = b ∧ j = i then 0 else zgA z k o j := fun k o j => by
        show zgA (zsA (zsA z 100 b i 0) 102 b i 0) k o j = _
        rw [zgA_sA, zgA_sA]
      have K1 : zKr b z z1 := zKr_tr (zKr_A (Or.inr (Or.inr ⟨rfl, by omega⟩))) (zKr_tr (zKr_A (Or.inr (Or.inr ⟨rfl, by omega⟩))) (zKr_I (Or.inr rfl)))
      have ck1 : zRCk z1 b (rH s) := zRCk_cz (I1 9 5 b (by omega)) (fun j => by rw [A1, if_neg (by omega), if_neg (by omega)]) (fun j => by rw [A1, if_neg (by omega), if_neg (by omega)]) (fun o j _ _ => by rw [A1, if_neg (by omega), if_neg (by omega)]) cK
      have ch1 : zRCh z1 b (rH s) := ⟨(I1 9 1 b (by omega)).trans cH.1, fun j n hj => by rw [A1, if_neg (by omega), if_neg (by omega)]; exact cH.2 j n hj⟩
      obtain ⟨z', r1, r2, r3, r4, r5, r6⟩ := zc_clearDueOf (N := N) ck1 ch1 hw.1 hi hN
      have A2 : ∀ k j, k ≠ 135 → zgA z' k b j = zgA z1 k b j := fun k j hk => r5 k b j (fun y => hk y.1)
      refine ⟨z', ?_, ⟨r3, r2, ?_, fun k hk => ?_, ?_, ?_⟩, fun k j o n1 n2 => (r4 k j o n1).trans (I1 k j o n2), Or.inr ?_, zKr_tr K1 r6⟩
      · rw [run1, zc_e, r1, zc_e]
        unfold fX11_doRouter_97
        rw [zo_i1, zl_e]
      · exact zRCt_cg ((r4 9 9 b (by omega)).trans (I1 9 9 b (by omega))) (fun k j hk => by rw [A2 k j (by omega), A1, if_neg (by omega), if_neg (by omega)]) cT
      · show (match bSet (rB s) i none k with
          | none => zgA z' 100 b k = 0 ∧ zgA z' 102 b k = 0
          | some a => zgA z' 100 b k = Int32.ofNat a.1 ∧ zgA z' 101 b k = Int32.ofNat a.2.1 ∧ zgA z' 102 b k = Int32.ofNat a.2.2.length ∧ ∀ i e, a.2.2[i]? = some e → zgA z' 104 (b * 16 + k) i = Int32.ofNat (e.1 * 1048576 + e.2.1 * 4096 + e.2.2))
        unfold bSet
        by_cases d : k = i
        · rw [if_pos d]
          show zgA z' 100 b k = 0 ∧ zgA z' 102 b k = 0
          refine ⟨?_, ?_⟩
          · rw [A2 _ _ (by omega), A1, if_neg (by omega), if_pos ⟨rfl, rfl, d⟩]
          · rw [A2 _ _ (by omega), A1, if_pos ⟨rfl, rfl, d⟩]
        · rw [if_neg d]
          have h0 := cB k hk
          have s0 : ∀ j, j ≠ 135 → zgA z' j b k = zgA z j b k := fun j hj => by rw [A2 j k hj, A1, if_neg (fun y => d y.2.2), if_neg (fun y => d y.2.2)]
          cases e2 : rB s k with
          | none =>
            rw [e2] at h0
            exact ⟨(s0 100 (by omega)).trans h0.1, (s0 102 (by omega)).trans h0.2⟩
          | some m =>
            rw [e2] at h0
            exact ⟨(s0 100 (by omega)).trans h0.1, (s0 101 (by omega)).trans h0.2.1, (s0 102 (by omega)).trans h0.2.2.1, fun j e' he' => by
              rw [r5 104 _ j (by omega), A1, if_neg (by omega), if_neg (by omega)]; exact h0.2.2.2 j e' he'⟩
      · exact ((r4 0 7 b (by omega)).trans (I1 0 7 b (by omega))).trans c7
      · exact ((r4 0 8 b (by omega)).trans (I1 0 8 b (by omega))).trans c8
      · rw [r4 0 9 b (by omega)]
        show zgI (zsI (zsA (zsA z 100 b i 0) 102 b i 0) 0 9 b 1) 0 9 b = 1
        rw [zgI_sI, if_pos ⟨rfl, rfl, rfl⟩]
    · have eR : rEx (eN E) i s = s := by unfold rEx; rw [e]; exact if_neg c
      rw [if_neg (by rw [show (5000 : Int32) = Int32.ofNat 5000 from rfl, zo_le (by omega) (by omega)]; omega), eR]
      exact ⟨z, skip, hR, fun _ _ _ _ _ => rfl, Or.inl ⟨rfl, rfl⟩, zKr_rf _ _⟩
