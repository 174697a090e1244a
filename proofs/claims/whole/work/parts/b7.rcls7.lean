/-! routers, the class: an advert comes, a thanking comes -/
def bNum (Ba : Nat → Option Ad) (r : Nat) : Nat := match Ba r with | some a => a.1 | none => 0
def rThx (s : Rs) (e : Nat × Nat × Nat) : List (Nat × Nat × Nat) := if (rT s).length < 64 then rT s ++ [e] else rT s
def rAdv (b key of_ num : Nat) (L : List En) (now : Nat) (s : Rs) : Rs :=
  if fn (rH s) key = false then s else
  if num < bNum (rB s) of_ then (hDue (rH s) key of_ now, rThx s (key, of_, num), s.2.2) else
  if num = bNum (rB s) of_ then (hDue (rH s) key of_ 0, rThx s (key, of_, num), s.2.2) else
  if of_ = b then (hDue (rH s) key of_ 0, rThx s (key, of_, num), rB s, rm s, ro s, max (rh s) num) else
  (hAll (hDue (rH s) key of_ 0) of_ (some key) now, rThx s (key, of_, num), bSet (rB s) of_ (some (num, now, L)), rm s, ro s, rh s)
def rThk (key of_ num : Nat) (s : Rs) : Rs := if bNum (rB s) of_ = num then (hDue (rH s) key of_ 0, s.2) else s
theorem bNum_c {z : St} {b r : Nat} {Ba : Nat → Option Ad} (h : zRCb z b Ba) (hr : r < 16) : zgA z 100 b r = Int32.ofNat (bNum Ba r) := by
  have := h r hr
  unfold bNum
  cases e : Ba r with
  | none => rw [e] at this; exact this.1
  | some a => rw [e] at this; exact this.1
theorem bNum_le {Ba : Nat → Option Ad} (h : zBw Ba) (r : Nat) : bNum Ba r ≤ 16000000 := by
  unfold bNum
  cases e : Ba r with
  | none => exact Nat.zero_le _
  | some a => exact (h r a e).2.2.1
theorem zRCh_due {z : St} {b key r t : Nat} {H : List Nb} (h : zRCh z b H) : zRCh z b (hDue H key r t) := zRCh_upd (fun _ => rfl) h
theorem zc_addThanks {z : St} {b key of_ num N : Nat} {L : List (Nat × Nat × Nat)} (h : zRCt z b L) (hl : L.length ≤ 64) : ∃ z', fX9_addThanks N b (Int32.ofNat key) (Int32.ofNat of_) (Int32.ofNat num) z = some (zbi (decide (L.length < 64)), z') ∧ zRCt z' b (if L.length < 64 then L ++ [(key, of_, num)] else L) ∧ (∀ k j o, ¬ (k = 9 ∧ j = 9 ∧ o = b) → zgI z' k j o = zgI z k j o) ∧ (∀ k o i, ¬ ((k = 136 ∨ k = 137 ∨ k = 138) ∧ o = b) → zgA z' k o i = zgA z k o i) ∧ zKr b z z' := by
  obtain ⟨c1, c2⟩ := h
  by_cases c : L.length < 64
  · let z1 : St := zsA (zsA (zsA z 136 b L.length (Int32.ofNat key)) 137 b L.length (Int32.ofNat of_)) 138 b L.length (Int32.ofNat num)
    have A1 : ∀ k o i, zgA z1 k o i = if k = 138 ∧ o = b ∧ i = L.length then Int32.ofNat num else if k = 137 ∧ o = b ∧ i = L.length then Int32.ofNat of_ else if k = 136 ∧ o = b ∧ i = L.length then Int32.ofNat key else zgA z k o i := fun k o i => by
      show zgA (zsA (zsA (zsA z 136 b _ _) 137 b _ _) 138 b _ _) k o i = _
      rw [zgA_sA, zgA_sA, zgA_sA]
    refine ⟨zsI z1 9 9 b (Int32.ofNat (L.length + 1)), ?_, ?_, fun k j o n => by rw [zgI_sI, if_neg n]; rfl, fun k o i n => ?_, ?_⟩
    · unfold fX9_addThanks
      have i1 : zgI (zsA z 136 b L.length (Int32.ofNat key)) 9 9 b = Int32.ofNat L.length := c1
      have i2 : zgI (zsA (zsA z 136 b L.length (Int32.ofNat key)) 137 b L.length (Int32.ofNat of_)) 9 9 b = Int32.ofNat L.length := c1
      have i3 : zgI z1 9 9 b = Int32.ofNat L.length := c1
      rw [c1, if_pos (by rw [show (64 : Int32) = Int32.ofNat 64 from rfl, zo_lt (by omega) (by omega)]; exact c), zkk c (by omega), zoC (by omega), zl_e, i1, zkk c (by omega), zoC (by omega), zl_e, i2, zkk c (by omega), zoC (by omega), zl_e]
      show zl (zsI z1 9 9 b (zgI z1 9 9 b + 1)) _ = _
      rw [i3, zo_i1, zl_e]
      have : decide (L.length < 64) = true := by simpa using c
      rw [this]; rfl
    · rw [if_pos c]
      refine ⟨by rw [zgI_sI, if_pos ⟨rfl, rfl, rfl⟩]; simp, fun i e hi => ?_⟩
      rw [zgA_sI, zgA_sI, zgA_sI, A1, A1, A1]
      by_cases ci : i = L.length
      · rw [ci, List.getElem?_append_right (Nat.le_refl _), Nat.sub_self] at hi
        have he : (key, of_, num) = e := by simpa using hi
        rw [← he, if_neg (by omega), if_neg (by omega), if_pos ⟨rfl, rfl, ci⟩, if_neg (by omega), if_pos ⟨rfl, rfl, ci⟩, if_pos ⟨rfl, rfl, ci⟩]
        exact ⟨rfl, rfl, rfl⟩
      · have hil := (List.getElem?_eq_some_iff.mp hi).1
        rw [List.length_append] at hil
        have hil : i < L.length := by simp at hil; omega
        rw [List.getElem?_append_left hil] at hi
        rw [if_neg (fun y => ci y.2.2), if_neg (fun y => ci y.2.2), if_neg (fun y => ci y.2.2), if_neg (fun y => ci y.2.2), if_neg (fun y => ci y.2.2), if_neg (fun y => ci y.2.2), if_neg (fun y => ci y.2.2), if_neg (fun y => ci y.2.2), if_neg (fun y => ci y.2.2)]
        exact c2 i e hi
    · rw [zgA_sI, A1, if_neg (fun y => n ⟨by omega, y.2.1⟩), if_neg (fun y => n ⟨by omega, y.2.1⟩), if_neg (fun y => n ⟨by omega, y.2.1⟩)]
    · exact zKr_tr (zKr_A (Or.inr (Or.inr ⟨rfl, by omega⟩))) (zKr_tr (zKr_A (Or.inr (Or.inr ⟨rfl, by omega⟩))) (zKr_tr (zKr_A (Or.inr (Or.inr ⟨rfl, by omega⟩))) (zKr_I (Or.inl rfl))))
  · refine ⟨z, ?_, by rw [if_neg c]; exact ⟨c1, c2⟩, fun _ _ _ _ => rfl, fun _ _ _ _ => rfl, zKr_rf _ _⟩
    unfold fX9_addThanks
    rw [c1, if_neg (by rw [show (64 : Int32) = Int32.ofNat 64 from rfl, zo_lt (by omega) (by omega)]; exact c)]
    have : decide (L.length < 64) = false := by simpa using c
    rw [this]; rfl
theorem zc_takeAdvert {z : St} {T : Tp} {E : Ev} {q p x of_ num N : Nat} {L : List En} {D : Dg} {s : Rs} (hT : zTC z T) (hc : zTc T) (hE : zgI z 11 4 0 = Int32.ofNat (eN E)) (hE4 : 1 ≤ eN E ∧ eN E ≤ 400000) (hq : tv T q) (hp : tv T p) (hpq : p / 8 = q / 8) (hr : tr T (tw T p) = true) (hrq : tr T (tw T q) = true) (hne : tw T p ≠ tw T q) (hx : zPC 11 z x D) (hf : df D = 0) (hs : D.1 0 = zad p) (hdl : dl D = 12 + 6 * L.length) (hA : zAe D.2 of_ num L) (hL : zEn L) (ho : of_ < 16) (hn : num ≤ 16000000) (hR : zRcl z (tw T q) s) (hw : zRw T E (tw T q) s) (hN : 24 < N) :
    ∃ z', fX11_takeAdvert N 0 q x z = some (0, z') ∧ zRcl z' (tw T q) (rAdv (tw T q) (16 * ti T q + tw T p) of_ num L (eN E) s) ∧ (∀ k j o, ¬ (k = 9 ∧ (j = 5 ∨ j = 9) ∧ o = tw T q) → ¬ (k = 0 ∧ (j = 6 ∨ j = 8 ∨ j = 9) ∧ o = tw T q) → ¬ (k = 11 ∧ j = 5) → zgI z' k j o = zgI z k j o) ∧ zgI z' 11 5 0 = (if fn (rH s) (16 * ti T q + tw T p) = true ∧ (rT s).length = 64 then Int32.ofNat (eN E) else zgI z 11 5 0) ∧ ((zgI z' 0 9 (tw T q) = zgI z 0 9 (tw T q) ∧ rB (rAdv (tw T q) (16 * ti T q + tw T p) of_ num L (eN E) s) = rB s) ∨ zgI z' 0 9 (tw T q) = 1) ∧ zKr (tw T q) (zsI z 11 5 0 (zgI z' 11 5 0)) z' := by
  obtain ⟨hb, hti, htq⟩ := hc.2.2.2.2.2.1 q hq
  have hpb := (hc.2.2.2.2.2.1 p hp).1
  have h16 := hc.1
  have ht6 := tp_le hc hb
  have h112 : zgR z 1 10 (tw T q) = some (tw T q) := (hT.2.2.1.1 _ hb hrq).1
  have h912 : zgR z 9 12 (tw T q) = some (tw T q) := (hT.2.2.1.1 _ hb hrq).2.1
  obtain ⟨q0, -, -, -, -⟩ := hT.2.2.2 q hq
  have b0 := (hT.2.1.2 _ hb).2.1
  have sk := zc_senderKey (N := N) hT hc hq hp hpq hr hne ((hx.1 0 (by omega) (by omega)).trans hs)
  have hR0 := hR
  obtain ⟨hRh, hRk, hRt, hRb, hR7, hR8⟩ := hR
  obtain ⟨wH, wN, wT, wB, wm⟩ := hw
  generalize hb' : tw T q = b at *
  generalize hkey : 16 * ti T q + tw T p = key at *
  have hk96 : key < 96 := by omega
  have c133 := (hRk.2 key hk96).2.1
  have bl := bNum_le wB of_
  have g2' : fX7_get2 N x (0 : Int32) z = some (Int32.ofNat of_, z) := by
    have := zc_get2D (N := N) (i := 0) hx hf (by omega) (by omega)
    rw [hA.1] at this; exact this
  have g4' : fX7_get4 N x (2 : Int32) z = some (Int32.ofNat num, z) := by
    have := zc_get4D (N := N) (i := 2) hx hf (by omega) (by omega)
    rw [hA.2.1] at this; exact this
  have run0 : fX11_takeAdvert N 0 q x z = (if ¬ zbi (fn (rH s) key) = 0 then (zc (fX9_addThanks N b (Int32.ofNat key) (Int32.ofNat of_) (Int32.ofNat num) z) fun r21 z22 => if ¬ r21 = 0 then (fX11_takeAdvert_71 N 0 q x b (Int32.ofNat key) (Int32.ofNat of_) (Int32.ofNat num) z22) else (zc (fX11_stir N 0 z22) fun _ z27 => fX11_takeAdvert_71 N 0 q x b (Int32.ofNat key) (Int32.ofNat of_) (Int32.ofNat num) z27)) else (some (0, z))) := by
    unfold fX11_takeAdvert
    rw [q0, zl_e, zd_e, h112, zl_e, sk, zc_e, if_neg (zo_nn (by omega)), zd_e, zkk hk96 (by omega), zoC (by omega), c133]
    by_cases c : ¬ zbi (fn (rH s) key) = 0
    · rw [if_pos c, if_pos c, g2', zc_e, g4', zc_e, if_pos (by rw [show (16 : Int32) = Int32.ofNat 16 from rfl, zo_lt (by omega) (by omega)]; exact ho)]
    · rw [if_neg c, if_neg c]
  by_cases cf : fn (rH s) key = false
  · have eA : rAdv b key of_ num L (eN E) s = s := by unfold rAdv; rw [if_pos cf]
    rw [eA]
    refine ⟨z, ?_, hR0, fun _ _ _ _ _ _ => rfl, by rw [cf, if_neg (by simp)], Or.inl ⟨rfl, rfl⟩, by rw [zsI_id]; exact zKr_rf _ _⟩
    rw [run0, cf, if_neg (by decide)]
  · have cft : fn (rH s) key = true := by simpa using cf
    have hex : ∃ n, n ∈ rH s ∧ n.1 = key := by
      unfold fn at cft
      cases e : hAt (rH s) key with
      | none => rw [e] at cft; cases cft
      | some n => exact ⟨n, hAt_some e⟩
    rw [cft, if_pos (show ¬ zbi true = 0 by decide)] at run0
    obtain ⟨z1, t1, t2, t3, t4, t5⟩ := zc_addThanks (N := N) (key := key) (of_ := of_) (num := num) hRt wT.1
    -- behind the thanks: stirred or not
    let v : Int32 := if (rT s).length < 64 then zgI z 11 5 0 else Int32.ofNat (eN E)
    let z2 : St := if (rT s).length < 64 then z1 else zsI z1 11 5 0 (Int32.ofNat (eN E))
    have run1 : fX11_takeAdvert N 0 q x z = fX11_takeAdvert_71 N 0 q x b (Int32.ofNat key) (Int32.ofNat of_) (Int32.ofNat num) z2 := by
      rw [run0, t1, zc_e]
      show _ = fX11_takeAdvert_71 N 0 q x b (Int32.ofNat key) (Int32.ofNat of_) (Int32.ofNat num) (if (rT s).length < 64 then z1 else zsI z1 11 5 0 (Int32.ofNat (eN E)))
      by_cases c : (rT s).length < 64
      · have : decide ((rT s).length < 64) = true := by simpa using c
        rw [this, if_pos (show ¬ zbi true = 0 by decide), if_pos c]
      · have : decide ((rT s).length < 64) = false := by simpa using c
        rw [this, if_neg (show ¬ ¬ zbi false = 0 by decide), if_neg c]
        unfold fX11_stir
        rw [t3 11 4 0 (by omega), hE, zl_e, zc_e]
    have I2 : ∀ k j o, ¬ (k = 9 ∧ j = 9 ∧ o = b) → ¬ (k = 11 ∧ j = 5) → zgI z2 k j o = zgI z k j o := fun k j o n1 n2 => by
      show zgI (if (rT s).length < 64 then z1 else zsI z1 11 5 0 (Int32.ofNat (eN E))) k j o = _
      by_cases c : (rT s).length < 64
      · rw [if_pos c]; exact t3 k j o n1
      · rw [if_neg c, zgI_sI, if_neg (fun y => n2 ⟨y.1, y.2.1⟩)]; exact t3 k j o n1
    have A2 : ∀ k o i, zgA z2 k o i = zgA z1 k o i := fun k o i => by
      show zgA (if (rT s).length < 64 then z1 else zsI z1 11 5 0 (Int32.ofNat (eN E))) k o i = _
      by_cases c : (rT s).length < 64
      · rw [if_pos c]
      · rw [if_neg c]; rfl
    have A2' : ∀ k o i, ¬ ((k = 136 ∨ k = 137 ∨ k = 138) ∧ o = b) → zgA z2 k o i = zgA z k o i := fun k o i n => (A2 k o i).trans (t4 k o i n)
    have R2 : ∀ k o i, zgR z2 k o i = zgR z k o i := fun k o i => by
      show zgR (if (rT s).length < 64 then z1 else zsI z1 11 5 0 (Int32.ofNat (eN E))) k o i = _
      by_cases c : (rT s).length < 64
      · rw [if_pos c]; exact t5.2.2.2.2 k o i
      · rw [if_neg c]; exact t5.2.2.2.2 k o i
    have v2 : zgI z2 11 5 0 = v := by
      show zgI (if (rT s).length < 64 then z1 else zsI z1 11 5 0 (Int32.ofNat (eN E))) 11 5 0 = (if (rT s).length < 64 then zgI z 11 5 0 else Int32.ofNat (eN E))
      by_cases c : (rT s).length < 64
      · rw [if_pos c, if_pos c]; exact t3 11 5 0 (by omega)
      · rw [if_neg c, if_neg c, zgI_sI, if_pos ⟨rfl, rfl, rfl⟩]
    have K2 : zKr b (zsI z 11 5 0 v) z2 := by
      refine ⟨fun k j o n => ?_, fun k o i a1 a2 a3 => (A2' k o i (fun y => a3 ⟨y.2, by omega⟩)), fun k o i => ?_, fun k o i => ?_, fun k o i => R2 k o i⟩
      · by_cases c : k = 11 ∧ j = 5 ∧ o = 0
        · rw [c.1, c.2.1, c.2.2, v2, zgI_sI, if_pos ⟨rfl, rfl, rfl⟩]
        · rw [zgI_sI, if_neg c]
          show zgI (if (rT s).length < 64 then z1 else zsI z1 11 5 0 (Int32.ofNat (eN E))) k j o = _
          by_cases c2 : (rT s).length < 64
          · rw [if_pos c2]; exact t3 k j o (fun y => n ⟨Or.inl y.1, y.2.2⟩)
          · rw [if_neg c2, zgI_sI, if_neg c]; exact t3 k j o (fun y => n ⟨Or.inl y.1, y.2.2⟩)
      · show zgL (if (rT s).length < 64 then z1 else zsI z1 11 5 0 (Int32.ofNat (eN E))) k o i = _
        by_cases c : (rT s).length < 64
        · rw [if_pos c]; exact t5.2.2.1 k o i
        · rw [if_neg c]; exact t5.2.2.1 k o i
      · show zgQ (if (rT s).length < 64 then z1 else zsI z1 11 5 0 (Int32.ofNat (eN E))) k o i = _
        by_cases c : (rT s).length < 64
        · rw [if_pos c]; exact t5.2.2.2.1 k o i
        · rw [if_neg c]; exact t5.2.2.2.1 k o i
    have T2 : zRCt z2 b (rThx s (key, of_, num)) := by
      have : zRCt z1 b (rThx s (key, of_, num)) := t2
      refine zRCt_cg ?_ (fun k i _ => A2 k b i) this
      show zgI (if (rT s).length < 64 then z1 else zsI z1 11 5 0 (Int32.ofNat (eN E))) 9 9 b = _
      by_cases c : (rT s).length < 64
      · rw [if_pos c]
      · rw [if_neg c, zgI_sI, if_neg (by omega)]
    have Rh2 : zRCh z2 b (rH s) := zRCh_cg (I2 9 1 b (by omega) (by omega)) (fun i => A2' 131 b i (by omega)) hRh
    have Rk2 : zRCk z2 b (rH s) := zRCk_cz (I2 9 5 b (by omega) (by omega)) (fun i => A2' 132 b i (by omega)) (fun i => A2' 133 b i (by omega)) (fun o i _ _ => A2' 135 o i (by omega)) hRk
    have Rb2 : zRCb z2 b (rB s) := zRCb_cg (fun k i hk => A2' k b i (by omega)) (fun o i _ _ => A2' 104 o i (by omega)) hRb
    have m7 : zgI z2 0 7 b = Int32.ofNat (rm s) := (I2 0 7 b (by omega) (by omega)).trans hR7
    have m8 : zgI z2 0 8 b = Int32.ofNat (max (ro s) (rh s)) := (I2 0 8 b (by omega) (by omega)).trans hR8
    have n2 : zgI z2 11 4 0 = Int32.ofNat (eN E) := (I2 11 4 0 (by omega) (by omega)).trans hE
    have c100 := bNum_c Rb2 ho
    have e11 : v = (if fn (rH s) key = true ∧ (rT s).length = 64 then Int32.ofNat (eN E) else zgI z 11 5 0) := by
      show (if (rT s).length < 64 then zgI z 11 5 0 else Int32.ofNat (eN E)) = _
      have := wT.1
      by_cases c : (rT s).length < 64
      · rw [if_pos c, if_neg (by omega)]
      · rw [if_neg c, if_pos ⟨cft, by omega⟩]
    have run2 : fX11_takeAdvert_71 N 0 q x b (Int32.ofNat key) (Int32.ofNat of_) (Int32.ofNat num) z2 = (if Int32.ofNat (bNum (rB s) of_) ≤ Int32.ofNat num then (zc (fX9_setDue N b (Int32.ofNat key) (Int32.ofNat of_) (0 : Int32) z2) fun _ z7 => if ¬ Int32.ofNat num = Int32.ofNat (bNum (rB s) of_) then (zl (zgR z7 8 0 q) fun y11 => zd y11 fun a12 => if ¬ Int32.ofNat of_ = (zgI z7 1 0 a12) then (zl (zgR z7 9 12 b) fun y14 => zd y14 fun a15 => zc (fX0_takeAdvert N a15 x (Int32.ofNat of_) (Int32.ofNat num) (zgI z7 11 4 0) z7) fun _ z17 => zc (fX9_setDueToAll N b (Int32.ofNat of_) (Int32.ofNat key) (zgI z17 11 4 0) z17) fun _ z21 => some (0, z21)) else (zl (zgR z7 9 12 b) fun y24 => zl (zgR z7 9 12 b) fun y25 => zd y25 fun a26 => zd y24 fun a27 => zl (zsI z7 0 8 a27 (if (zgI z7 0 8 a26) < Int32.ofNat num then Int32.ofNat num else (zgI z7 0 8 a26))) fun z28 => some (0, z28))) else (some (0, z7))) else (zc (fX9_setDue N b (Int32.ofNat key) (Int32.ofNat of_) (zgI z2 11 4 0) z2) fun _ z30 => some (0, z30))) := by
      unfold fX11_takeAdvert_71
      rw [R2 9 12 b, h912, zl_e, zd_e, zkk ho (by omega), zoC (by omega), c100, zl_e]
    have pack : ∀ {z' : St} {s' : Rs} {m : Nat}, rAdv b key of_ num L (eN E) s = s' → fX11_takeAdvert_71 N 0 q x b (Int32.ofNat key) (Int32.ofNat of_) (Int32.ofNat num) z2 = some (0, z') → zRcl z' b s' → (∀ k j o, ¬ (k = 9 ∧ j = 5 ∧ o = b) → ¬ (k = 0 ∧ (j = 6 ∨ j = 8 ∨ j = 9) ∧ o = b) → zgI z' k j o = zgI z2 k j o) → ((zgI z' 0 9 b = zgI z2 0 9 b ∧ rB s' = rB s) ∨ zgI z' 0 9 b = 1) → zKr b z2 z' → ∃ z', fX11_takeAdvert N 0 q x z = some (0, z') ∧ zRcl z' b (rAdv b key of_ num L (eN E) s) ∧ (∀ k j o, ¬ (k = 9 ∧ (j = 5 ∨ j = 9) ∧ o = b) → ¬ (k = 0 ∧ (j = 6 ∨ j = 8 ∨ j = 9) ∧ o = b) → ¬ (k = 11 ∧ j = 5) → zgI z' k j o = zgI z k j o) ∧ zgI z' 11 5 0 = (if fn (rH s) key = true ∧ (rT s).length = 64 then Int32.ofNat (eN E) else zgI z 11 5 0) ∧ ((zgI z' 0 9 b = zgI z 0 9 b ∧ rB (rAdv b key of_ num L (eN E) s) = rB s) ∨ zgI z' 0 9 b = 1) ∧ zKr b (zsI z 11 5 0 (zgI z' 11 5 0)) z' := by
      intro z' s' m e1 e2 e3 e4 e5 e6
      rw [e1]
      have v' : zgI z' 11 5 0 = v := (e4 11 5 0 (by omega) (by omega)).trans v2
      refine ⟨z', run1.trans e2, e3, fun k j o n1 n2 n3 => (e4 k j o (fun y => n1 ⟨y.1, Or.inl y.2.1, y.2.2⟩) n2).trans (I2 k j o (fun y => n1 ⟨y.1, Or.inr y.2.1, y.2.2⟩) n3), by rw [v']; exact e11, ?_, by rw [v']; exact zKr_tr K2 e6⟩
      rcases e5 with e5 | e5
      · exact Or.inl ⟨e5.1.trans (I2 0 9 b (by omega) (by omega)), e5.2⟩
      · exact Or.inr e5
    by_cases c1 : num < bNum (rB s) of_
    · obtain ⟨z3, r1, r2, r3, r4, r5⟩ := zc_setDue (N := N) (t := eN E) Rk2 wH.1 hk96 ho (by omega) (Or.inl hex)
      refine pack (m := 0) (z' := z3) (s' := (hDue (rH s) key of_ (eN E), rThx s (key, of_, num), s.2.2)) ?_ ?_ ⟨zRCh_due (zRCh_cg (r3 9 1 b (by omega)) (fun i => r4 131 b i (by omega)) Rh2), r2, zRCt_cg (r3 9 9 b (by omega)) (fun k i hk => r4 k b i (by omega)) T2, zRCb_cg (fun k i hk => r4 k b i (by omega)) (fun o i _ _ => r4 104 o i (by omega)) Rb2, (r3 0 7 b (by omega)).trans m7, (r3 0 8 b (by omega)).trans m8⟩ (fun k j o n _ => r3 k j o n) (Or.inl ⟨r3 0 9 b (by omega), rfl⟩) r5
      · unfold rAdv
        rw [if_neg cf, if_pos c1]
      · rw [run2, if_neg (by rw [zo_le (by omega) (by omega)]; omega), n2, r1, zc_e]
    · obtain ⟨z3, r1, r2, r3, r4, r5⟩ := zc_setDue (N := N) (t := 0) Rk2 wH.1 hk96 ho (by omega) (Or.inr rfl)
      have r1 : fX9_setDue N b (Int32.ofNat key) (Int32.ofNat of_) (0 : Int32) z2 = some (0, z3) := r1
      rw [if_pos (by rw [zo_le (by omega) (by omega)]; omega), r1, zc_e] at run2
      have Rh3 : zRCh z3 b (hDue (rH s) key of_ 0) := zRCh_due (zRCh_cg (r3 9 1 b (by omega)) (fun i => r4 131 b i (by omega)) Rh2)
      have T3 : zRCt z3 b (rThx s (key, of_, num)) := zRCt_cg (r3 9 9 b (by omega)) (fun k i hk => r4 k b i (by omega)) T2
      have Rb3 : zRCb z3 b (rB s) := zRCb_cg (fun k i hk => r4 k b i (by omega)) (fun o i _ _ => r4 104 o i (by omega)) Rb2
      have m73 : zgI z3 0 7 b = Int32.ofNat (rm s) := (r3 0 7 b (by omega)).trans m7
      have m83 : zgI z3 0 8 b = Int32.ofNat (max (ro s) (rh s)) := (r3 0 8 b (by omega)).trans m8
      have n3 : zgI z3 11 4 0 = Int32.ofNat (eN E) := (r3 11 4 0 (by omega)).trans n2
      by_cases c2 : num = bNum (rB s) of_
      · refine pack (m := 0) (z' := z3) (s' := (hDue (rH s) key of_ 0, rThx s (key, of_, num), s.2.2)) ?_ ?_ ⟨Rh3, r2, T3, Rb3, m73, m83⟩ (fun k j o n _ => r3 k j o n) (Or.inl ⟨r3 0 9 b (by omega), rfl⟩) r5
        · unfold rAdv
          rw [if_neg cf, if_neg c1, if_pos c2]
        · rw [run2, if_neg (by rw [zo_eq (by omega) (by omega)]; exact fun y => y c2)]
      · have q03 : zgR z3 8 0 q = some b := (r5.2.2.2.2 8 0 q).trans ((R2 8 0 q).trans q0)
        have b03 : zgI z3 1 0 b = Int32.ofNat b := (r3 1 0 b (by omega)).trans ((I2 1 0 b (by omega) (by omega)).trans b0)
        have h93 : zgR z3 9 12 b = some b := (r5.2.2.2.2 9 12 b).trans ((R2 9 12 b).trans h912)
        rw [if_pos (by rw [zo_eq (by omega) (by omega)]; exact c2), zl_e, q03, zd_e, b03] at run2
        by_cases c3 : of_ = b
        · rw [if_neg (fun y => y (by rw [c3])), zl_e, zl_e, h93, zd_e, zd_e, m83] at run2
          let z4 : St := zsI z3 0 8 b (Int32.ofNat (max (ro s) (max (rh s) num)))
          have e8 : (if Int32.ofNat (max (ro s) (rh s)) < Int32.ofNat num then Int32.ofNat num else Int32.ofNat (max (ro s) (rh s))) = Int32.ofNat (max (ro s) (max (rh s) num)) := by
            by_cases c : max (ro s) (rh s) < num
            · rw [if_pos (by rw [zo_lt (by omega) (by omega)]; exact c)]; congr 1; omega
            · rw [if_neg (by rw [zo_lt (by omega) (by omega)]; exact c)]; congr 1; omega
          rw [e8, zl_e] at run2
          have I4 : ∀ k j o, ¬ (k = 0 ∧ j = 8 ∧ o = b) → zgI z4 k j o = zgI z3 k j o := fun k j o n => by
            show zgI (zsI z3 0 8 b _) k j o = _
            rw [zgI_sI, if_neg n]
          refine pack (m := 0) (z' := z4) (s' := (hDue (rH s) key of_ 0, rThx s (key, of_, num), rB s, rm s, ro s, max (rh s) num)) ?_ run2 ⟨zRCh_cg (I4 9 1 b (by omega)) (fun _ => rfl) Rh3, zRCk_cz (I4 9 5 b (by omega)) (fun _ => rfl) (fun _ => rfl) (fun _ _ _ _ => rfl) r2, zRCt_cg (I4 9 9 b (by omega)) (fun _ _ _ => rfl) T3, zRCb_cg (fun _ _ _ => rfl) (fun _ _ _ _ => rfl) Rb3, (I4 0 7 b (by omega)).trans m73, ?_⟩ (fun k j o n1 n2 => (I4 k j o (fun y => n2 ⟨y.1, Or.inr (Or.inl y.2.1), y.2.2⟩)).trans (r3 k j o n1)) (Or.inl ⟨(I4 0 9 b (by omega)).trans (r3 0 9 b (by omega)), rfl⟩) (zKr_tr r5 (zKr_I (Or.inr rfl)))
          · unfold rAdv
            rw [if_neg cf, if_neg c1, if_neg c2, if_pos c3]
          · show zgI (zsI z3 0 8 b _) 0 8 b = _
            rw [zgI_sI, if_pos ⟨rfl, rfl, rfl⟩]; rfl
        · have hb16 : b < 16 := by omega
          have hx3 : zPC 11 z3 x D := zPC_cg (fun j _ => (r3 7 j x (by omega)).trans (I2 7 j x (by omega) (by omega))) (fun i => (r4 125 x i (by omega)).trans (A2' 125 x i (by omega))) hx
          obtain ⟨z4, s1, s2, s3, s4, s5, s6⟩ := zc_baseTake (N := N) (now := eN E) Rb3 hx3 hf hdl hA hL ho hN
          rw [if_pos (by rw [zo_eq (by omega) (by omega)]; exact c3), zl_e, h93, zd_e, n3, s1, zc_e, (s3 11 4 0 (by omega)).trans n3] at run2
          have H3 : zHn (hDue (rH s) key of_ 0) := zHn_due (by omega) (Or.inr rfl) wH
          obtain ⟨z5, u1, u2, u3, u4, u5, u6⟩ := zc_setDueToAll (N := N) (r := of_) (now := eN E) (but := some key) (zRCk_cz (s3 9 5 b (by omega)) (fun i => s5 132 b i (by omega) (by omega)) (fun i => s5 133 b i (by omega) (by omega)) (fun o i _ _ => s5 135 o i (by omega) (by omega)) r2) (zRCh_cg (s3 9 1 b (by omega)) (fun i => s5 131 b i (by omega) (by omega)) Rh3) H3 ho hE4.2 (fun y hy => by cases hy; exact hk96) (by omega)
          have u1 : fX9_setDueToAll N b (Int32.ofNat of_) (Int32.ofNat key) (Int32.ofNat (eN E)) z4 = some (0, z5) := u1
          rw [u1, zc_e] at run2
          refine pack (m := 0) (z' := z5) (s' := (hAll (hDue (rH s) key of_ 0) of_ (some key) (eN E), rThx s (key, of_, num), bSet (rB s) of_ (some (num, eN E, L)), rm s, ro s, rh s)) ?_ run2 ⟨u3, u2, zRCt_cg ((u4 9 9 b (by omega)).trans (s3 9 9 b (by omega))) (fun k i hk => (u5 k b i (by omega)).trans (s5 k b i (by omega) (by omega))) T3, zRCb_cg (fun k i hk => u5 k b i (by omega)) (fun o i _ _ => u5 104 o i (by omega)) s2, (u4 0 7 b (by omega)).trans ((s3 0 7 b (by omega)).trans m73), (u4 0 8 b (by omega)).trans ((s3 0 8 b (by omega)).trans m83)⟩ (fun k j o n1 n2 => (u4 k j o n1).trans ((s3 k j o (fun y => n2 ⟨y.1, by omega, y.2.2⟩)).trans (r3 k j o n1))) (Or.inr ((u4 0 9 b (by omega)).trans s4)) (zKr_tr r5 (zKr_tr s6 u6))
          unfold rAdv
          rw [if_neg cf, if_neg c1, if_neg c2, if_neg c3]
theorem zc_takeThanking {z : St} {T : Tp} {q p x of_ num N : Nat} {D : Dg} {s : Rs} (hT : zTC z T) (hc : zTc T) (hq : tv T q) (hp : tv T p) (hpq : p / 8 = q / 8) (hr : tr T (tw T p) = true) (hrq : tr T (tw T q) = true) (hne : tw T p ≠ tw T q) (hx : zPC 11 z x D) (hf : df D = 0) (hs : D.1 0 = zad p) (hdl : 8 ≤ dl D) (h2 : g2 D.2 0 = Int32.ofNat of_) (h4 : g4 D.2 2 = Int32.ofNat num) (ho : of_ < 16) (hn : num ≤ 16000000) (hR : zRcl z (tw T q) s) (hH : zHn (rH s)) (hB : zBw (rB s)) (hN : 24 < N) :
    ∃ z', fX11_takeThanking N 0 q x z = some (0, z') ∧ zRcl z' (tw T q) (rThk (16 * ti T q + tw T p) of_ num s) ∧ (∀ k j o, ¬ (k = 9 ∧ j = 5 ∧ o = tw T q) → zgI z' k j o = zgI z k j o) ∧ zKr (tw T q) z z' := by
  obtain ⟨hb, hti, htq⟩ := hc.2.2.2.2.2.1 q hq
  have hpb := (hc.2.2.2.2.2.1 p hp).1
  have h16 := hc.1
  have ht6 := tp_le hc hb
  have h112 : zgR z 1 10 (tw T q) = some (tw T q) := (hT.2.2.1.1 _ hb hrq).1
  have h912 : zgR z 9 12 (tw T q) = some (tw T q) := (hT.2.2.1.1 _ hb hrq).2.1
  obtain ⟨q0, -, -, -, -⟩ := hT.2.2.2 q hq
  have sk := zc_senderKey (N := N) hT hc hq hp hpq hr hne ((hx.1 0 (by omega) (by omega)).trans hs)
  have hR0 := hR
  obtain ⟨hRh, hRk, hRt, hRb, hR7, hR8⟩ := hR
  generalize hb' : tw T q = b at *
  generalize hkey : 16 * ti T q + tw T p = key at *
  have hk96 : key < 96 := by omega
  have bl := bNum_le hB of_
  have c100 := bNum_c hRb ho
  have g2' : fX7_get2 N x (0 : Int32) z = some (Int32.ofNat of_, z) := by
    have := zc_get2D (N := N) (i := 0) hx hf (by omega) (by omega)
    rw [h2] at this; exact this
  have g4' : fX7_get4 N x (2 : Int32) z = some (Int32.ofNat num, z) := by
    have := zc_get4D (N := N) (i := 2) hx hf (by omega) (by omega)
    rw [h4] at this; exact this
  have run : fX11_takeThanking N 0 q x z = (if ¬ Int32.ofNat (bNum (rB s) of_) = Int32.ofNat num then (some (0, z)) else (zc (fX9_setDue N b (Int32.ofNat key) (Int32.ofNat of_) (0 : Int32) z) fun _ z24 => some (0, z24))) := by
    unfold fX11_takeThanking
    rw [q0, zl_e, zd_e, h112, zl_e, sk, zc_e, g2', zc_e, if_neg (zo_nn (by omega)), if_pos (by rw [show (16 : Int32) = Int32.ofNat 16 from rfl, zo_lt (by omega) (by omega)]; exact ho), zd_e, h912, zl_e, zd_e, zkk ho (by omega), g4', zc_e, zoC (by omega), c100]
  by_cases c : bNum (rB s) of_ = num
  · obtain ⟨z3, r1, r2, r3, r4, r5⟩ := zc_setDue (N := N) (t := 0) hRk hH.1 hk96 ho (by omega) (Or.inr rfl)
    have r1 : fX9_setDue N b (Int32.ofNat key) (Int32.ofNat of_) (0 : Int32) z = some (0, z3) := r1
    refine ⟨z3, ?_, ?_, r3, r5⟩
    · rw [run, if_neg (by rw [zo_eq (by omega) (by omega)]; exact fun y => y c), r1, zc_e]
    · unfold rThk
      rw [if_pos c]
      exact ⟨zRCh_due (zRCh_cg (r3 9 1 b (by omega)) (fun i => r4 131 b i (by omega)) hRh), r2, zRCt_cg (r3 9 9 b (by omega)) (fun k i hk => r4 k b i (by omega)) hRt, zRCb_cg (fun k i hk => r4 k b i (by omega)) (fun o i _ _ => r4 104 o i (by omega)) hRb, (r3 0 7 b (by omega)).trans hR7, (r3 0 8 b (by omega)).trans hR8⟩
  · refine ⟨z, ?_, ?_, fun _ _ _ _ => rfl, zKr_rf _ _⟩
    · rw [run, if_pos (by rw [zo_eq (by omega) (by omega)]; exact c)]
    · unfold rThk; rw [if_neg c]; exact hR0
