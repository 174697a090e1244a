/-! routers, the class: what comes from other routers -/
/-- all of a router, the class's side: neighbours, thanks, base, when its own advert was made and the greatest number -/
abbrev Rs : Type := List Nb × List (Nat × Nat × Nat) × (Nat → Option Ad) × Nat × Nat × Nat
def rH (s : Rs) : List Nb := s.1
def rT (s : Rs) : List (Nat × Nat × Nat) := s.2.1
def rB (s : Rs) : Nat → Option Ad := s.2.2.1
def rm (s : Rs) : Nat := s.2.2.2.1
def ro (s : Rs) : Nat := s.2.2.2.2.1
def rh (s : Rs) : Nat := s.2.2.2.2.2
def zRCt (z : St) (b : Nat) (L : List (Nat × Nat × Nat)) : Prop := zgI z 9 9 b = Int32.ofNat L.length ∧ ∀ i e, L[i]? = some e → zgA z 136 b i = Int32.ofNat e.1 ∧ zgA z 137 b i = Int32.ofNat e.2.1 ∧ zgA z 138 b i = Int32.ofNat e.2.2
def zRcl (z : St) (b : Nat) (s : Rs) : Prop := zRCh z b (rH s) ∧ zRCk z b (rH s) ∧ zRCt z b (rT s) ∧ zRCb z b (rB s) ∧ zgI z 0 7 b = Int32.ofNat (rm s) ∧ zgI z 0 8 b = Int32.ofNat (max (ro s) (rh s))
/-- a key that a neighbour may have -/
def zKok (T : Tp) (b key : Nat) : Prop := key / 16 < tp T b ∧ key % 16 < tb T ∧ tr T (key % 16) = true ∧ key % 16 ≠ b ∧ ∃ p, tpo T (key % 16) (tq T b (key / 16) / 8) = some p
/-- what is so of a router -/
def zRw (T : Tp) (E : Ev) (b : Nat) (s : Rs) : Prop := zHn (rH s) ∧ (∀ n, n ∈ rH s → n.1 / 16 < tp T b ∧ n.1 % 16 < tb T ∧ tr T (n.1 % 16) = true ∧ n.1 % 16 ≠ b ∧ (∃ p, tpo T (n.1 % 16) (tq T b (n.1 / 16) / 8) = some p) ∧ 1 ≤ n.2.1 ∧ n.2.1 ≤ eN E ∧ (∀ k, k < 16 → n.2.2.2 k ≠ 0 → (rB s k).isSome = true)) ∧ ((rT s).length ≤ 64 ∧ ∀ e, e ∈ rT s → zKok T b e.1 ∧ e.2.1 < 16 ∧ e.2.2 ≤ 16000000) ∧ zBw (rB s) ∧ (rm s ≤ eN E ∧ ro s ≤ 16000000 ∧ rh s ≤ 16000000)
theorem zRCt_cg {z z' : St} {b : Nat} {L : List (Nat × Nat × Nat)} (h1 : zgI z' 9 9 b = zgI z 9 9 b) (h2 : ∀ k i, k = 136 ∨ k = 137 ∨ k = 138 → zgA z' k b i = zgA z k b i) (h : zRCt z b L) : zRCt z' b L := ⟨h1.trans h.1, fun i e hi => ⟨(h2 136 i (by simp)).trans (h.2 i e hi).1, (h2 137 i (by simp)).trans (h.2 i e hi).2.1, (h2 138 i (by simp)).trans (h.2 i e hi).2.2⟩⟩
theorem zRcl_kr {z z' : St} {b c : Nat} {s : Rs} (h : zKr b z z') (hc : c ≠ b) (hR : zRcl z c s) : zRcl z' c s := by
  obtain ⟨k1, k2, -, -, -⟩ := h
  have gI : ∀ k j, zgI z' k j c = zgI z k j c := fun k j => k1 k j c (fun y => hc y.2)
  have gA : ∀ k i, k ≠ 135 → k ≠ 104 → zgA z' k c i = zgA z k c i := fun k i n1 n2 => k2 k c i (fun y => n1 y.1) (fun y => n2 y.1) (fun y => hc y.1)
  exact ⟨zRCh_cg (gI 9 1) (fun i => gA 131 i (by omega) (by omega)) hR.1, zRCk_cz (gI 9 5) (fun i => gA 132 i (by omega) (by omega)) (fun i => gA 133 i (by omega) (by omega)) (fun o i _ _ => k2 135 o i (by omega) (by omega) (by omega)) hR.2.1, zRCt_cg (gI 9 9) (fun k i hk => gA k i (by omega) (by omega)) hR.2.2.1, zRCb_cg (fun k i hk => gA k i (by omega) (by omega)) (fun o i _ _ => k2 104 o i (by omega) (by omega) (by omega)) hR.2.2.2.1, (gI 0 7).trans hR.2.2.2.2.1, (gI 0 8).trans hR.2.2.2.2.2⟩
theorem zRcl_cg {z z' : St} {b : Nat} {s : Rs} (h9 : ∀ j, j < 10 → zgI z' 9 j b = zgI z 9 j b) (h0 : ∀ j, j = 7 ∨ j = 8 → zgI z' 0 j b = zgI z 0 j b) (hA : ∀ k o i, (100 ≤ k ∧ k ≤ 104 ∧ k ≠ 103) ∨ (131 ≤ k ∧ k ≤ 138) → zgA z' k o i = zgA z k o i) (hR : zRcl z b s) : zRcl z' b s :=
  ⟨zRCh_cg (h9 1 (by omega)) (fun i => hA 131 _ i (by omega)) hR.1, zRCk_cz (h9 5 (by omega)) (fun i => hA 132 _ i (by omega)) (fun i => hA 133 _ i (by omega)) (fun o i _ _ => hA 135 o i (by omega)) hR.2.1, zRCt_cg (h9 9 (by omega)) (fun k i hk => hA k _ i (by omega)) hR.2.2.1, zRCb_cg (fun k i hk => hA k _ i (by omega)) (fun o i _ _ => hA 104 o i (by omega)) hR.2.2.2.1, (h0 7 (by simp)).trans hR.2.2.2.2.1, (h0 8 (by simp)).trans hR.2.2.2.2.2⟩
/-- the key of who sent what came -/
theorem zc_senderKey {z : St} {T : Tp} {q p x N : Nat} (hT : zTC z T) (hc : zTc T) (hq : tv T q) (hp : tv T p) (hpq : p / 8 = q / 8) (hr : tr T (tw T p) = true) (hne : tw T p ≠ tw T q) (hx : zgI z 7 0 x = zad p) : fX11_senderKey N 0 q x z = some (Int32.ofNat (16 * ti T q + tw T p), z) := by
  obtain ⟨q0, q1, q2, -, -⟩ := hT.2.2.2 q hq
  obtain ⟨p0, p1, -, -, -⟩ := hT.2.2.2 p hp
  have hpb := (hc.2.2.2.2.2.1 p hp).1
  have hqb := hc.2.2.2.2.2.1 q hq
  have ht6 := tp_le hc hqb.1
  have h16 := hc.1
  obtain ⟨-, b0, b1, -⟩ := hT.2.1.2 _ hpb
  unfold fX11_senderKey
  rw [hx, zc_portOfAddress hT hc, zc_e, tad_zad hc hp, zo_e, zl_e, zl_e, p1, q1, if_neg (fun y => y (by rw [hpq])), zl_e, p0, zd_e, b1, hr, if_pos (show ¬ zbi true = 0 by decide), zl_e, zl_e, q0, if_pos (fun y => hne (Option.some.inj y)), zl_e, zd_e]
  unfold fX11_keyOf
  rw [zc_e, q2, b0]
  have : Int32.ofNat (ti T q) * (16 : Int32) = Int32.ofNat (16 * ti T q) := by rw [Nat.mul_comm]; exact (Int32.ofNat_mul _ _).symm
  rw [this, zo_add]
/-- whether a greeting names a router -/
def gNm (D : Dg) (b k : Nat) : Bool := (List.range k).any (fun i => decide (g2 D.2 (8 + 2 * i) = Int32.ofNat b))
def rGr (H : List Nb) (Ba : Nat → Option Ad) (key : Nat) (named : Bool) (now : Nat) : List Nb :=
  if (hAt H key).isSome = true then hFr (hLast H key now) Ba key named now else
  if H.length = 16 then H else hFr (hLast (hIns (key, 0, false, fun _ => 0) H) key now) Ba key named now
theorem zc_get2D {z : St} {x i N : Nat} {D : Dg} (hx : zPC 11 z x D) (hf : df D = 0) (hl : i + 2 ≤ dl D) (hi : i + 2 ≤ 1480) : fX7_get2 N x (Int32.ofNat i) z = some (g2 D.2 i, z) := by
  rw [zc_get2 hi]
  congr 2
  unfold g2
  have a0 := hx.2 i (by omega)
  have a1 := hx.2 (i + 1) (by omega)
  rw [hf, Nat.zero_add] at a0 a1
  rw [a0, a1]
theorem zc_get4D {z : St} {x i N : Nat} {D : Dg} (hx : zPC 11 z x D) (hf : df D = 0) (hl : i + 4 ≤ dl D) (hi : i + 4 ≤ 1480) : fX7_get4 N x (Int32.ofNat i) z = some (g4 D.2 i, z) := by
  rw [zc_get4 hi]
  congr 2
  have a : ∀ j, i ≤ j → j < i + 4 → zgA z 125 x j = D.2 j := fun j h1 h2 => by
    have := hx.2 j (by omega)
    rw [hf, Nat.zero_add] at this
    exact this
  unfold g4 g2
  rw [a i (by omega) (by omega), a (i + 1) (by omega) (by omega), a (i + 2) (by omega) (by omega), a (i + 2 + 1) (by omega) (by omega)]
theorem zc_takeGreeting {z : St} {T : Tp} {E : Ev} {q p x k N : Nat} {D : Dg} {s : Rs} (hT : zTC z T) (hc : zTc T) (hE : zgI z 11 4 0 = Int32.ofNat (eN E)) (hE4 : 1 ≤ eN E ∧ eN E ≤ 400000) (hq : tv T q) (hp : tv T p) (hpq : p / 8 = q / 8) (hr : tr T (tw T p) = true) (hrq : tr T (tw T q) = true) (hne : tw T p ≠ tw T q) (hx : zPC 11 z x D) (hf : df D = 0) (hs : D.1 0 = zad p) (hk : k ≤ 16) (hnk : g2 D.2 2 = Int32.ofNat k) (hdl : dl D = 8 + 2 * k) (hR : zRcl z (tw T q) s) (hw : zRw T E (tw T q) s) (hN : 16 < N) :
    ∃ z', fX11_takeGreeting N 0 q x z = some (0, z') ∧ zRcl z' (tw T q) (rGr (rH s) (rB s) (16 * ti T q + tw T p) (gNm D (tw T q) k) (eN E), s.2) ∧ (∀ k j o, ¬ (k = 9 ∧ (j = 1 ∨ j = 5 ∨ j = 10) ∧ o = tw T q) → ¬ (k = 11 ∧ j = 5) → zgI z' k j o = zgI z k j o) ∧ zgI z' 11 5 0 = (if (hAt (rH s) (16 * ti T q + tw T p)).isSome = false ∧ (rH s).length = 16 then Int32.ofNat (eN E) else zgI z 11 5 0) ∧ (zgI z' 9 10 (tw T q) = zgI z 9 10 (tw T q) ∨ zgI z' 9 10 (tw T q) = 1) ∧ ((∀ key, fn (rGr (rH s) (rB s) (16 * ti T q + tw T p) (gNm D (tw T q) k) (eN E)) key = fn (rH s) key) ∨ zgI z' 9 10 (tw T q) = 1) ∧ (∀ k o i, ¬ (k = 135 ∧ tw T q * 96 ≤ o ∧ o < tw T q * 96 + 96) → ¬ ((k = 131 ∨ k = 132 ∨ k = 133) ∧ o = tw T q) → zgA z' k o i = zgA z k o i) ∧ zKr (tw T q) (zsI z 11 5 0 (zgI z' 11 5 0)) z' := by
  obtain ⟨hb, hti, htq⟩ := hc.2.2.2.2.2.1 q hq
  have hpb := (hc.2.2.2.2.2.1 p hp).1
  have h16 := hc.1
  have ht6 := tp_le hc hb
  have h112 : zgR z 1 10 (tw T q) = some (tw T q) := (hT.2.2.1.1 _ hb hrq).1
  have h912 : zgR z 9 12 (tw T q) = some (tw T q) := (hT.2.2.1.1 _ hb hrq).2.1
  obtain ⟨q0, -, -, -, -⟩ := hT.2.2.2 q hq
  have b0 := (hT.2.1.2 _ hb).2.1
  have sk := zc_senderKey (N := N) hT hc hq hp hpq hr hne ((hx.1 0 (by omega) (by omega)).trans hs)
  obtain ⟨hRh, hRk, hRt, hRb, hR7, hR8⟩ := hR
  obtain ⟨wH, wN, wT, wB, wm⟩ := hw
  generalize hb' : tw T q = b at *
  generalize hkey : 16 * ti T q + tw T p = key at *
  have hk96 : key < 96 := by omega
  generalize hnm : gNm D b k = nm at *
  -- the last step
  have last : ∀ (z0 : St) (H0 : List Nb), zRCh z0 b H0 → zRCk z0 b H0 → zHn H0 → (∃ n, n ∈ H0 ∧ n.1 = key) → zRCb z0 b (rB s) → zgR z0 9 12 b = some b → zgI z0 11 4 0 = Int32.ofNat (eN E) → ∃ z', fX11_takeGreeting_107 N 0 b (Int32.ofNat key) (zbi nm) z0 = some (0, z') ∧ zRCh z' b (hFr (hLast H0 key (eN E)) (rB s) key nm (eN E)) ∧ zRCk z' b (hFr (hLast H0 key (eN E)) (rB s) key nm (eN E)) ∧ (∀ k j o, ¬ (k = 9 ∧ (j = 5 ∨ j = 10) ∧ o = b) → zgI z' k j o = zgI z0 k j o) ∧ zgI z' 9 10 b = (if fn H0 key = nm then zgI z0 9 10 b else 1) ∧ (∀ k o i, ¬ (k = 135 ∧ b * 96 ≤ o ∧ o < b * 96 + 96) → ¬ ((k = 132 ∨ k = 133) ∧ o = b) → zgA z' k o i = zgA z0 k o i) ∧ zKr b z0 z' := by
    intro z0 H0 h0 hk0 hH0 hex hb0 h120 hn0
    have R1 := zRCk_last (now := eN E) hk96 hex hH0.1 hk0
    have H1 := zHn_last (key := key) (now := eN E) hE4.2 hH0
    have hex1 : ∃ n, n ∈ hLast H0 key (eN E) ∧ n.1 = key := by
      obtain ⟨n, hn, hnk⟩ := hex
      exact ⟨(n.1, eN E, n.2.2), List.mem_map.mpr ⟨n, hn, if_pos hnk⟩, hnk⟩
    obtain ⟨z', s1, s2, -, s4, s5, s6, s7⟩ := zc_setFriend (N := N) (z := zsA z0 132 b key (Int32.ofNat (eN E))) (named := nm) (now := eN E) R1 H1 (zRCb_cg (fun k i hk3 => by rw [zgA_sA, if_neg (by omega)]) (fun o i _ _ => by rw [zgA_sA, if_neg (by omega)]) hb0) wB h120 hk96 hE4.2 (Or.inl hex1) hN
    have fnl : fn (hLast H0 key (eN E)) key = fn H0 key := fn_upd (by intro _; rfl) (by intro _; rfl) H0 key
    refine ⟨z', ?_, ?_, s2, s4, by rw [s5, fnl]; rfl, fun k o i n1 n2 => ?_, zKr_tr (zKr_A (Or.inr (Or.inr ⟨rfl, by omega⟩))) s7⟩
    · unfold fX11_takeGreeting_107
      rw [zkk hk96 (by omega), zoC (by omega), hn0, zl_e]
      have : zgI (zsA z0 132 b key (Int32.ofNat (eN E))) 11 4 0 = Int32.ofNat (eN E) := hn0
      rw [this, s1, zc_e]
    · have e1 : zRCh z' b (hLast H0 key (eN E)) := zRCh_cg (s4 9 1 b (by omega)) (fun i => by rw [s6 131 b i (by omega) (by omega), zgA_sA, if_neg (by omega)]) (zRCh_upd (fun _ => rfl) h0)
      unfold hFr
      split
      · exact e1
      · exact zRCh_upd (fun _ => rfl) e1
    · rw [s6 k o i n1 (fun y => n2 ⟨Or.inr y.1, y.2⟩), zgA_sA, if_neg (fun y => n2 ⟨Or.inl y.1, y.2.1⟩)]
  have fnFr : ∀ H0 : List Nb, zHn H0 → fn H0 key = nm → ∀ key', fn (hFr (hLast H0 key (eN E)) (rB s) key nm (eN E)) key' = fn H0 key' := fun H0 _ hf key' => by
    have e : ∀ k, fn (hLast H0 key (eN E)) k = fn H0 k := fun k => fn_upd (by intro _; rfl) (by intro _; rfl) H0 k
    unfold hFr
    rw [if_pos (by rw [e]; exact hf), e]
  -- behind the names
  have main : ∃ z', (zd (some b) fun a2 => zk (Int32.ofNat key) 96 <| if ¬ (zgA z 132 a2 (Int32.toNatClampNeg (Int32.ofNat key))) = 0 then (fX11_takeGreeting_107 N 0 a2 (Int32.ofNat key) (zbi nm) z) else (if (zgI z 9 1 a2) < (16 : Int32) then (zc (fX9_beginHearing N a2 (Int32.ofNat key) z) fun _ z7 => fX11_takeGreeting_107 N 0 a2 (Int32.ofNat key) (zbi nm) z7) else (zc (fX11_stir N 0 z) fun _ z11 => some (0, z11)))) = some (0, z') ∧ zRcl z' b (rGr (rH s) (rB s) key nm (eN E), s.2) ∧ (∀ k j o, ¬ (k = 9 ∧ (j = 1 ∨ j = 5 ∨ j = 10) ∧ o = b) → ¬ (k = 11 ∧ j = 5) → zgI z' k j o = zgI z k j o) ∧ zgI z' 11 5 0 = (if (hAt (rH s) key).isSome = false ∧ (rH s).length = 16 then Int32.ofNat (eN E) else zgI z 11 5 0) ∧ (zgI z' 9 10 b = zgI z 9 10 b ∨ zgI z' 9 10 b = 1) ∧ ((∀ key', fn (rGr (rH s) (rB s) key nm (eN E)) key' = fn (rH s) key') ∨ zgI z' 9 10 b = 1) ∧ (∀ k o i, ¬ (k = 135 ∧ b * 96 ≤ o ∧ o < b * 96 + 96) → ¬ ((k = 131 ∨ k = 132 ∨ k = 133) ∧ o = b) → zgA z' k o i = zgA z k o i) ∧ zKr b (zsI z 11 5 0 (zgI z' 11 5 0)) z' := by
    have c132 := (hRk.2 key hk96).1
    rw [zd_e, zkk hk96 (by omega), zoC (by omega), c132]
    have rest : ∀ {z' : St} {H' : List Nb}, zRCh z' b H' → zRCk z' b H' → (∀ k j o, ¬ (k = 9 ∧ (j = 1 ∨ j = 5 ∨ j = 10) ∧ o = b) → zgI z' k j o = zgI z k j o) → (∀ k o i, ¬ (k = 135 ∧ b * 96 ≤ o ∧ o < b * 96 + 96) → ¬ ((k = 131 ∨ k = 132 ∨ k = 133) ∧ o = b) → zgA z' k o i = zgA z k o i) → zRcl z' b (H', s.2) := fun a1 a2 a3 a4 => ⟨a1, a2, zRCt_cg (a3 9 9 b (by omega)) (fun k i hk => a4 k b i (by omega) (by omega)) hRt, zRCb_cg (fun k i hk => a4 k b i (by omega) (by omega)) (fun o i _ _ => a4 104 o i (by omega) (by omega)) hRb, (a3 0 7 b (by omega)).trans hR7, (a3 0 8 b (by omega)).trans hR8⟩
    cases he : hAt (rH s) key with
    | some n =>
      obtain ⟨hn1, hn2⟩ := hAt_some he
      have hl1 := (wN n hn1).2.2.2.2.2.1
      have hl2 := (wN n hn1).2.2.2.2.2.2.1
      have efl : fl (rH s) key = n.2.1 := by unfold fl; rw [he]
      rw [efl, if_pos (fun y => by rw [zo_0e (by omega)] at y; omega)]
      obtain ⟨z', s1, s2, s3, s4, s5, s6, s7⟩ := last z (rH s) hRh hRk wH ⟨n, hn1, hn2⟩ hRb h912 hE
      have e11 : zgI z' 11 5 0 = zgI z 11 5 0 := s4 11 5 0 (by omega)
      have eG : rGr (rH s) (rB s) key nm (eN E) = hFr (hLast (rH s) key (eN E)) (rB s) key nm (eN E) := by
        unfold rGr; rw [he, if_pos (show (some n).isSome = true from rfl)]
      rw [eG]
      refine ⟨z', s1, rest s2 s3 (fun k j o n => s4 k j o (fun y => n ⟨y.1, Or.inr y.2.1, y.2.2⟩)) (fun k o i n1 n2 => s6 k o i n1 (fun y => n2 ⟨Or.inr y.1, y.2⟩)), fun k j o n _ => s4 k j o (fun y => n ⟨y.1, Or.inr y.2.1, y.2.2⟩), by rw [if_neg (by simp), e11], ?_, ?_, fun k o i n1 n2 => s6 k o i n1 (fun y => n2 ⟨Or.inr y.1, y.2⟩), by rw [e11, zsI_id]; exact s7⟩
      · rw [s5]; split
        · exact Or.inl rfl
        · exact Or.inr rfl
      · by_cases c : fn (rH s) key = nm
        · exact Or.inl (fnFr _ wH c)
        · right; rw [s5, if_neg c]
    | none =>
      have hno := hAt_none.mp he
      have efl : fl (rH s) key = 0 := by unfold fl; rw [he]
      rw [efl, if_neg (fun y => y rfl), hRh.1]
      have hl16 := wH.1.2.2
      by_cases c16 : (rH s).length = 16
      · have eG : rGr (rH s) (rB s) key nm (eN E) = rH s := by
          unfold rGr; rw [he, if_neg (by simp), if_pos c16]
        rw [eG, c16, if_neg (by decide)]
        let z' : St := zsI z 11 5 0 (Int32.ofNat (eN E))
        have st : fX11_stir N 0 z = some (0, z') := by
          unfold fX11_stir
          rw [hE, zl_e]
        have I : ∀ k j o, ¬ (k = 11 ∧ j = 5 ∧ o = 0) → zgI z' k j o = zgI z k j o := fun k j o n => by
          show zgI (zsI z 11 5 0 _) k j o = _
          rw [zgI_sI, if_neg n]
        have e5 : zgI z' 11 5 0 = Int32.ofNat (eN E) := by
          show zgI (zsI z 11 5 0 _) 11 5 0 = _
          rw [zgI_sI, if_pos ⟨rfl, rfl, rfl⟩]
        refine ⟨z', by rw [st, zc_e], ?_, fun k j o _ n => I k j o (fun y => n ⟨y.1, y.2.1⟩), by rw [if_pos ⟨rfl, rfl⟩]; exact e5, Or.inl (I 9 10 b (by omega)), Or.inl (fun _ => rfl), fun _ _ _ _ _ => rfl, by rw [e5]; exact zKr_rf _ _⟩
        exact zRcl_cg (fun j _ => I 9 j b (by omega)) (fun j _ => I 0 j b (by omega)) (fun _ _ _ _ => rfl) ⟨hRh, hRk, hRt, hRb, hR7, hR8⟩
      · rw [if_pos (by rw [show (16 : Int32) = Int32.ofNat 16 from rfl, zo_lt (by omega) (by omega)]; omega)]
        obtain ⟨z1, r1, r2, r3, r4, r5⟩ := zc_beginHearing (N := N) hRh wH.1 (by omega) hk96 hno hN
        have hi : (∃ n, n ∈ hIns ((key, 0, false, fun _ => 0) : Nb) (rH s) ∧ n.1 = key) := ⟨_, hIns_mem.mpr (Or.inl rfl), rfl⟩
        have H1 := zHn_ins (by omega) hk96 hno wH
        have R1 : zRCk z1 b (hIns (key, 0, false, fun _ => 0) (rH s)) := zRCk_ins hno (zRCk_cz (r3 9 5 b (by omega)) (fun i => r4 132 b i (by omega)) (fun i => r4 133 b i (by omega)) (fun o i _ _ => r4 135 o i (by omega)) hRk)
        obtain ⟨z', s1, s2, s3, s4, s5, s6, s7⟩ := last z1 _ r2 R1 H1 hi (zRCb_cg (fun k i hk => r4 k b i (by omega)) (fun o i _ _ => r4 104 o i (by omega)) hRb) ((r5.2.2.2.2 9 12 b).trans h912) ((r3 11 4 0 (by omega)).trans hE)
        have eG : rGr (rH s) (rB s) key nm (eN E) = hFr (hLast (hIns (key, 0, false, fun _ => 0) (rH s)) key (eN E)) (rB s) key nm (eN E) := by
          unfold rGr; rw [he, if_neg (by simp), if_neg c16]
        have FI : ∀ k j o, ¬ (k = 9 ∧ (j = 1 ∨ j = 5 ∨ j = 10) ∧ o = b) → zgI z' k j o = zgI z k j o := fun k j o n => (s4 k j o (fun y => n ⟨y.1, Or.inr y.2.1, y.2.2⟩)).trans (r3 k j o (fun y => n ⟨y.1, Or.inl y.2.1, y.2.2⟩))
        have FA : ∀ k o i, ¬ (k = 135 ∧ b * 96 ≤ o ∧ o < b * 96 + 96) → ¬ ((k = 131 ∨ k = 132 ∨ k = 133) ∧ o = b) → zgA z' k o i = zgA z k o i := fun k o i n1 n2 => (s6 k o i n1 (fun y => n2 ⟨Or.inr y.1, y.2⟩)).trans (r4 k o i (fun y => n2 ⟨Or.inl y.1, y.2⟩))
        have e11 : zgI z' 11 5 0 = zgI z 11 5 0 := FI 11 5 0 (by omega)
        have fni : ∀ key', fn (hIns (key, 0, false, fun _ => 0) (rH s)) key' = fn (rH s) key' := fun key' => by
          unfold fn
          rw [hAt_ins (n := ((key, 0, false, fun _ => 0) : Nb)) key' hno]
          by_cases c : key' = key
          · rw [if_pos c, c, he]
          · rw [if_neg c]
        rw [eG]
        refine ⟨z', by rw [r1, zc_e]; exact s1, rest s2 s3 FI FA, fun k j o n _ => FI k j o n, by rw [if_neg (fun y => c16 y.2), e11], ?_, ?_, FA, by rw [e11, zsI_id]; exact zKr_tr r5 s7⟩
        · rw [s5]; split
          · exact Or.inl (r3 9 10 b (by omega))
          · exact Or.inr rfl
        · by_cases c : fn (hIns (key, 0, false, fun _ => 0) (rH s)) key = nm
          · exact Or.inl (fun key' => (fnFr _ H1 c key').trans (fni key'))
          · right; rw [s5, if_neg c]
  -- the names
  have loop : ∀ (m i n : Nat), i + m = k → m < n → fX11_takeGreeting_40 N n 0 q x (some b) (Int32.ofNat key) (zbi (gNm D b i)) (Int32.ofNat k) (Int32.ofNat i) z = (zd (some b) fun a2 => zk (Int32.ofNat key) 96 <| if ¬ (zgA z 132 a2 (Int32.toNatClampNeg (Int32.ofNat key))) = 0 then (fX11_takeGreeting_107 N 0 a2 (Int32.ofNat key) (zbi nm) z) else (if (zgI z 9 1 a2) < (16 : Int32) then (zc (fX9_beginHearing N a2 (Int32.ofNat key) z) fun _ z7 => fX11_takeGreeting_107 N 0 a2 (Int32.ofNat key) (zbi nm) z7) else (zc (fX11_stir N 0 z) fun _ z11 => some (0, z11)))) := by
    intro m
    induction m with
    | zero =>
      intro i n hi hn
      obtain ⟨n, rfl⟩ : ∃ k, n = k + 1 := ⟨n - 1, by omega⟩
      have : i = k := by omega
      subst this
      rw [hnm]
      show fX11_takeGreeting_40b N (fX11_takeGreeting_40 N n) 0 q x (some b) (Int32.ofNat key) (zbi nm) (Int32.ofNat i) (Int32.ofNat i) z = _
      unfold fX11_takeGreeting_40b
      rw [if_pos (Int32.le_refl _)]
    | succ m ih =>
      intro i n hi hn
      obtain ⟨n, rfl⟩ : ∃ k, n = k + 1 := ⟨n - 1, by omega⟩
      have e8 : (8 : Int32) + (2 : Int32) * Int32.ofNat i = Int32.ofNat (8 + 2 * i) := by
        rw [show (2 : Int32) * Int32.ofNat i = Int32.ofNat (2 * i) from (Int32.ofNat_mul 2 i).symm]
        exact zo_add 8 (2 * i)
      have eg : gNm D b (i + 1) = (gNm D b i || decide (g2 D.2 (8 + 2 * i) = Int32.ofNat b)) := by
        unfold gNm
        rw [List.range_succ, List.any_append]
        simp
      have := ih (i + 1) n (by omega) (by omega)
      rw [← this]
      show fX11_takeGreeting_40b N (fX11_takeGreeting_40 N n) 0 q x (some b) (Int32.ofNat key) (zbi (gNm D b i)) (Int32.ofNat k) (Int32.ofNat i) z = _
      unfold fX11_takeGreeting_40b
      rw [if_neg (by rw [zo_le (by omega) (by omega)]; omega), e8, zc_get2D hx hf (by omega) (by omega), zc_e, zl_e, q0, zd_e, b0]
      unfold fX11_takeGreeting_71
      rw [zl_e, zl_e, zo_i1, eg]
      by_cases c : g2 D.2 (8 + 2 * i) = Int32.ofNat b
      · rw [if_neg (fun y => y c)]
        have : (gNm D b i || decide (g2 D.2 (8 + 2 * i) = Int32.ofNat b)) = true := by simp [c]
        rw [this]; rfl
      · rw [if_pos c]
        have : (gNm D b i || decide (g2 D.2 (8 + 2 * i) = Int32.ofNat b)) = gNm D b i := by simp [c]
        rw [this]
  obtain ⟨z', m1, m2⟩ := main
  refine ⟨z', ?_, m2⟩
  unfold fX11_takeGreeting
  have g0 : gNm D b 0 = false := rfl
  have l0 := loop k 0 N (by omega) (by omega)
  rw [g0] at l0
  have e2 : fX7_get2 N x (2 : Int32) z = some (Int32.ofNat k, z) := by
    have := zc_get2D (N := N) (i := 2) hx hf (by omega) (by omega)
    rw [hnk] at this; exact this
  rw [q0, zl_e, zd_e, h112, zl_e, sk, zc_e, if_pos (zo_ge (by omega)), e2, zc_e]
  have e16 : (if (16 : Int32) < Int32.ofNat k then (16 : Int32) else Int32.ofNat k) = Int32.ofNat k := if_neg (by rw [show (16 : Int32) = Int32.ofNat 16 from rfl, zo_lt (by omega) (by omega)]; omega)
  rw [e16, zl_e]
  exact l0.trans m1
