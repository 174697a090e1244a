/-! routers: the class's side -/
/-- the row of the heard ones -/
def zRCh (z : St) (b : Nat) (H : List Nb) : Prop := zgI z 9 1 b = Int32.ofNat H.length ∧ ∀ i n, H[i]? = some n → zgA z 131 b i = Int32.ofNat n.1
/-- what lies at a key -/
def zRCk (z : St) (b : Nat) (H : List Nb) : Prop := zgI z 9 5 b = Int32.ofNat (hCnt H) ∧ ∀ key, key < 96 → zgA z 132 b key = Int32.ofNat (fl H key) ∧ zgA z 133 b key = zbi (fn H key) ∧ ∀ k, k < 16 → zgA z 135 (b * 96 + key) k = Int32.ofNat (fd H key k)
theorem zRCk_cg {z : St} {b : Nat} {H H' : List Nb} (h1 : ∀ key, key < 96 → fl H' key = fl H key ∧ fn H' key = fn H key ∧ ∀ k, k < 16 → fd H' key k = fd H key k) (h2 : hCnt H' = hCnt H) (h : zRCk z b H) : zRCk z b H' := by
  refine ⟨by rw [h2]; exact h.1, fun key hk => ?_⟩
  obtain ⟨a1, a2, a3⟩ := h1 key hk
  obtain ⟨b1, b2, b3⟩ := h.2 key hk
  exact ⟨by rw [a1]; exact b1, by rw [a2]; exact b2, fun k hk' => by rw [a3 k hk']; exact b3 k hk'⟩
/-- only router b is touched -/
def zKr (b : Nat) (z z' : St) : Prop := (∀ k j o, ¬ ((k = 9 ∨ k = 0) ∧ o = b) → zgI z' k j o = zgI z k j o) ∧ (∀ k o i, ¬ (k = 135 ∧ b * 96 ≤ o ∧ o < b * 96 + 96) → ¬ (k = 104 ∧ b * 16 ≤ o ∧ o < b * 16 + 16) → ¬ (o = b ∧ k ≠ 104 ∧ k ≠ 135 ∧ ((100 ≤ k ∧ k ≤ 105) ∨ (131 ≤ k ∧ k ≤ 138))) → zgA z' k o i = zgA z k o i) ∧ (∀ k o i, zgL z' k o i = zgL z k o i) ∧ (∀ k o i, zgQ z' k o i = zgQ z k o i) ∧ ∀ k o i, zgR z' k o i = zgR z k o i
theorem zKr_rf (b : Nat) (z : St) : zKr b z z := ⟨fun _ _ _ _ => rfl, fun _ _ _ _ _ _ => rfl, fun _ _ _ => rfl, fun _ _ _ => rfl, fun _ _ _ => rfl⟩
theorem zKr_tr {b : Nat} {x y z : St} (h1 : zKr b x y) (h2 : zKr b y z) : zKr b x z := ⟨fun k j o n => (h2.1 k j o n).trans (h1.1 k j o n), fun k o i a c d => (h2.2.1 k o i a c d).trans (h1.2.1 k o i a c d), fun k o i => (h2.2.2.1 k o i).trans (h1.2.2.1 k o i), fun k o i => (h2.2.2.2.1 k o i).trans (h1.2.2.2.1 k o i), fun k o i => (h2.2.2.2.2 k o i).trans (h1.2.2.2.2 k o i)⟩
theorem zKr_I {b k j : Nat} {z : St} {v : Int32} (hk : k = 9 ∨ k = 0) : zKr b z (zsI z k j b v) := ⟨fun k' j' o n => by rw [zgI_sI, if_neg (fun y => n ⟨by rw [y.1]; exact hk, y.2.2⟩)], fun _ _ _ _ _ _ => rfl, fun _ _ _ => rfl, fun _ _ _ => rfl, fun _ _ _ => rfl⟩
theorem zKr_A {b k o i : Nat} {z : St} {v : Int32} (hk : (k = 135 ∧ b * 96 ≤ o ∧ o < b * 96 + 96) ∨ (k = 104 ∧ b * 16 ≤ o ∧ o < b * 16 + 16) ∨ (o = b ∧ k ≠ 104 ∧ k ≠ 135 ∧ ((100 ≤ k ∧ k ≤ 105) ∨ (131 ≤ k ∧ k ≤ 138)))) : zKr b z (zsA z k o i v) := ⟨fun _ _ _ _ => rfl, fun k' o' i' n1 n2 n3 => by
  rw [zgA_sA, if_neg]
  rintro ⟨rfl, rfl, -⟩
  rcases hk with h | h | h
  · exact n1 h
  · exact n2 h
  · exact n3 h, fun _ _ _ => rfl, fun _ _ _ => rfl, fun _ _ _ => rfl⟩
theorem zRCh_cg {z z' : St} {b : Nat} {H : List Nb} (h1 : zgI z' 9 1 b = zgI z 9 1 b) (h2 : ∀ i, zgA z' 131 b i = zgA z 131 b i) (h : zRCh z b H) : zRCh z' b H := ⟨h1.trans h.1, fun i n hi => (h2 i).trans (h.2 i n hi)⟩
theorem zRCk_cz {z z' : St} {b : Nat} {H : List Nb} (h1 : zgI z' 9 5 b = zgI z 9 5 b) (h2 : ∀ i, zgA z' 132 b i = zgA z 132 b i) (h3 : ∀ i, zgA z' 133 b i = zgA z 133 b i) (h4 : ∀ o i, b * 96 ≤ o → o < b * 96 + 96 → zgA z' 135 o i = zgA z 135 o i) (h : zRCk z b H) : zRCk z' b H := ⟨h1.trans h.1, fun key hk => ⟨(h2 key).trans (h.2 key hk).1, (h3 key).trans (h.2 key hk).2.1, fun k hk' => (h4 _ k (by omega) (by omega)).trans ((h.2 key hk).2.2 k hk')⟩⟩
/-- an advert is due, or not any more -/
theorem zc_setDue {z : St} {b key r t N : Nat} {H : List Nb} (h : zRCk z b H) (hH : zHk H) (hk : key < 96) (hr : r < 16) (ht : t ≤ 400100) (hin : (∃ n, n ∈ H ∧ n.1 = key) ∨ t = 0) : ∃ z', fX9_setDue N b (Int32.ofNat key) (Int32.ofNat r) (Int32.ofNat t) z = some (0, z') ∧ zRCk z' b (hDue H key r t) ∧ (∀ k j o, ¬ (k = 9 ∧ j = 5 ∧ o = b) → zgI z' k j o = zgI z k j o) ∧ (∀ k o i, ¬ (k = 135 ∧ o = b * 96 + key ∧ i = r) → zgA z' k o i = zgA z k o i) ∧ zKr b z z' := by
  obtain ⟨h5, hkk⟩ := h
  have hc := hCnt_le H
  have hl16 := hH.2.2
  have hold := (hkk key hk).2.2 r hr
  have hod : fd H key r ≤ 400100 := by
    unfold fd
    cases e : hAt H key with
    | none => exact Nat.zero_le _
    | some n => exact (hH.1 n (hAt_some e).1).2.2 r
  have hex : fd H key r ≠ 0 → ∃ n, n ∈ H ∧ n.1 = key := fun y => by
    unfold fd at y
    cases e : hAt H key with
    | none => rw [e] at y; exact absurd rfl y
    | some n => exact ⟨n, hAt_some e⟩
  have hcnt : hCnt (hDue H key r t) + (if fd H key r = 0 then 0 else 1) = hCnt H + (if t = 0 then 0 else 1) := by
    by_cases hx : ∃ n, n ∈ H ∧ n.1 = key
    · exact hCnt_due hr hH.2.1 hx
    · have t0 : t = 0 := hin.resolve_left hx
      have f0 : fd H key r = 0 := Classical.byContradiction (fun y => hx (hex y))
      have : hDue H key r t = H := hUpd_no (fun n hn y => hx ⟨n, hn, y⟩)
      rw [this, t0, f0]
  have hpos : fd H key r ≠ 0 → 1 ≤ hCnt H := fun y => by
    have := hCnt_due (t := 0) hr hH.2.1 (hex y)
    rw [if_neg y, if_pos rfl] at this
    omega
  let z1 : St := if fd H key r = 0 then z else zsI z 9 5 b (Int32.ofNat (hCnt H - 1))
  let z2 : St := zsA z1 135 (b * 96 + key) r (Int32.ofNat t)
  let z3 : St := if t = 0 then z2 else zsI z2 9 5 b (zgI z2 9 5 b + 1)
  have I1 : ∀ k j o, zgI z1 k j o = if k = 9 ∧ j = 5 ∧ o = b ∧ fd H key r ≠ 0 then Int32.ofNat (hCnt H - 1) else zgI z k j o := fun k j o => by
    show zgI (if fd H key r = 0 then z else _) k j o = _
    by_cases c : fd H key r = 0
    · rw [if_pos c, if_neg (fun y => y.2.2.2 c)]
    · rw [if_neg c, zgI_sI]
      by_cases d : k = 9 ∧ j = 5 ∧ o = b
      · rw [if_pos d, if_pos ⟨d.1, d.2.1, d.2.2, c⟩]
      · rw [if_neg d, if_neg (fun y => d ⟨y.1, y.2.1, y.2.2.1⟩)]
  have A1 : ∀ k o i, zgA z1 k o i = zgA z k o i := fun k o i => by
    show zgA (if fd H key r = 0 then z else _) k o i = _
    by_cases c : fd H key r = 0
    · rw [if_pos c]
    · rw [if_neg c]; rfl
  have I2 : ∀ k j o, zgI z2 k j o = zgI z1 k j o := fun _ _ _ => rfl
  have I3 : ∀ k j o, zgI z3 k j o = if k = 9 ∧ j = 5 ∧ o = b ∧ t ≠ 0 then zgI z1 9 5 b + 1 else zgI z1 k j o := fun k j o => by
    show zgI (if t = 0 then z2 else _) k j o = _
    by_cases c : t = 0
    · rw [if_pos c, if_neg (fun y => y.2.2.2 c)]; rfl
    · rw [if_neg c, zgI_sI]
      by_cases d : k = 9 ∧ j = 5 ∧ o = b
      · rw [if_pos d, if_pos ⟨d.1, d.2.1, d.2.2, c⟩]; rfl
      · rw [if_neg d, if_neg (fun y => d ⟨y.1, y.2.1, y.2.2.1⟩)]; rfl
  have A3 : ∀ k o i, zgA z3 k o i = if k = 135 ∧ o = b * 96 + key ∧ i = r then Int32.ofNat t else zgA z k o i := fun k o i => by
    have e : zgA z3 k o i = zgA z2 k o i := by
      show zgA (if t = 0 then z2 else _) k o i = _
      by_cases c : t = 0
      · rw [if_pos c]
      · rw [if_neg c]; rfl
    rw [e]
    show zgA (zsA z1 135 (b * 96 + key) r (Int32.ofNat t)) k o i = _
    rw [zgA_sA, A1]
  have kr : zKr b z z3 := by
    have k1 : zKr b z z1 := by
      show zKr b z (if fd H key r = 0 then z else _)
      by_cases c : fd H key r = 0
      · rw [if_pos c]; exact zKr_rf _ _
      · rw [if_neg c]; exact zKr_I (Or.inl rfl)
    have k2 : zKr b z1 z2 := zKr_A (Or.inl ⟨rfl, by omega, by omega⟩)
    have k3 : zKr b z2 z3 := by
      show zKr b z2 (if t = 0 then z2 else _)
      by_cases c : t = 0
      · rw [if_pos c]; exact zKr_rf _ _
      · rw [if_neg c]; exact zKr_I (Or.inl rfl)
    exact zKr_tr k1 (zKr_tr k2 k3)
  refine ⟨z3, ?_, ⟨?_, fun key' hk' => ?_⟩, fun k j o n => ?_, fun k o i n => by rw [A3, if_neg n], kr⟩
  · unfold fX9_setDue
    rw [zkk hk (by omega), zkk hr (by omega), zoC (by omega), zoC (by omega), hold]
    have c21 : ∀ y : St, fX9_setDue_21 N b (Int32.ofNat key) (Int32.ofNat r) (Int32.ofNat t) y = some (0, if t = 0 then zsA y 135 (b * 96 + key) r (Int32.ofNat t) else zsI (zsA y 135 (b * 96 + key) r (Int32.ofNat t)) 9 5 b (zgI (zsA y 135 (b * 96 + key) r (Int32.ofNat t)) 9 5 b + 1)) := fun y => by
      unfold fX9_setDue_21
      rw [zkk hk (by omega), zkk hr (by omega), zoC (by omega), zoC (by omega), zl_e]
      by_cases c : t = 0
      · rw [if_pos ((zo_0e (by omega)).mpr c), if_pos c]
      · rw [if_neg (fun y => c ((zo_0e (by omega)).mp y)), if_neg c, zl_e]
    by_cases c : fd H key r = 0
    · rw [if_pos ((zo_0e (by omega)).mpr c), c21]
      congr 2
      show _ = (if t = 0 then zsA (if fd H key r = 0 then z else _) _ _ _ _ else zsI (zsA (if fd H key r = 0 then z else _) _ _ _ _) 9 5 b (zgI (zsA (if fd H key r = 0 then z else _) _ _ _ _) 9 5 b + 1))
      rw [if_pos c]
    · rw [if_neg (fun y => c ((zo_0e (by omega)).mp y)), h5, zo_s1 (by have := hpos c; omega), zl_e, c21]
      congr 2
      show _ = (if t = 0 then zsA (if fd H key r = 0 then z else _) _ _ _ _ else zsI (zsA (if fd H key r = 0 then z else _) _ _ _ _) 9 5 b (zgI (zsA (if fd H key r = 0 then z else _) _ _ _ _) 9 5 b + 1))
      rw [if_neg c]
  · rw [I3]
    by_cases ct : t = 0
    · rw [if_neg (fun y => y.2.2.2 ct), I1]
      by_cases cf : fd H key r = 0
      · rw [if_neg (fun y => y.2.2.2 cf), h5]
        rw [if_pos cf, if_pos ct] at hcnt
        rw [show hCnt (hDue H key r t) = hCnt H by omega]
      · rw [if_pos ⟨rfl, rfl, rfl, cf⟩]
        rw [if_neg cf, if_pos ct] at hcnt
        rw [show hCnt (hDue H key r t) = hCnt H - 1 by omega]
    · rw [if_pos ⟨rfl, rfl, rfl, ct⟩, I1]
      by_cases cf : fd H key r = 0
      · rw [if_neg (fun y => y.2.2.2 cf), h5, zo_i1]
        rw [if_pos cf, if_neg ct] at hcnt
        rw [show hCnt (hDue H key r t) = hCnt H + 1 by omega]
      · rw [if_pos ⟨rfl, rfl, rfl, cf⟩, zo_i1]
        have := hpos cf
        rw [if_neg cf, if_neg ct] at hcnt
        rw [show hCnt (hDue H key r t) = hCnt H - 1 + 1 by omega]
  · obtain ⟨b1, b2, b3⟩ := hkk key' hk'
    have e1 : fl (hDue H key r t) key' = fl H key' := fl_upd (by intro _; rfl) (by intro _; rfl) H key'
    have e2 : fn (hDue H key r t) key' = fn H key' := fn_upd (by intro _; rfl) (by intro _; rfl) H key'
    rw [e1, e2]
    refine ⟨by rw [A3, if_neg (by omega)]; exact b1, by rw [A3, if_neg (by omega)]; exact b2, fun k hk2 => ?_⟩
    rw [A3, fd_due]
    by_cases c : key' = key ∧ k = r
    · rw [if_pos ⟨rfl, by rw [c.1], c.2⟩]
      by_cases hx : (hAt H key).isSome = true
      · rw [if_pos ⟨c.1, c.2, hx⟩]
      · rw [if_neg (fun y => hx y.2.2)]
        have hno : hAt H key = none := by simpa using hx
        have t0 : t = 0 := hin.resolve_left (fun ⟨n, hn, hnk⟩ => (hAt_none.mp hno) n hn hnk)
        unfold fd
        rw [c.1, hno, t0]
    · rw [if_neg (fun y => c ⟨by omega, y.2.2⟩), if_neg (fun y => c ⟨y.1, y.2.1⟩)]
      exact b3 k hk2
  · rw [I3, if_neg (fun y => n ⟨y.1, y.2.1, y.2.2.1⟩), I1, if_neg (fun y => n ⟨y.1, y.2.1, y.2.2.1⟩)]
theorem zHk_due {H : List Nb} {key r t : Nat} (ht : t ≤ 400100) (h : zHk H) : zHk (hDue H key r t) := zHk_upd (fun _ => rfl) (fun n hn _ => ⟨(h.1 n hn).2.1, fun k => by
  show zupd n.2.2.2 r t k ≤ _
  by_cases c : k = r
  · rw [c, zupd_s]; exact ht
  · rw [zupd_n c]; exact (h.1 n hn).2.2 k⟩) h
theorem fn_mem {H : List Nb} (h : H.Pairwise (fun a b => a.1 < b.1)) {n : Nb} (hn : n ∈ H) : fn H n.1 = n.2.2.1 := by
  unfold fn
  rw [hAt_mem h hn]
theorem zHn_due {H : List Nb} {key r t : Nat} (ht : t ≤ 400100) (hfr : fn H key = true ∨ t = 0) (h : zHn H) : zHn (hDue H key r t) := ⟨zHk_due ht h.1, zHf_upd (fun n hn hk hf k hk' => by
  show zupd n.2.2.2 r t k = 0
  by_cases c : k = r
  · rw [c, zupd_s]
    rcases hfr with hx | hx
    · rw [← hk, fn_mem h.1.2.1 hn] at hx
      have hf : n.2.2.1 = false := hf
      rw [hf] at hx; cases hx
    · exact hx
  · rw [zupd_n c]; exact h.2 n hn hf k hk') h.2⟩
