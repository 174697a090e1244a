/-! what a method of the one side leaves of the other's objects -/
def zEq (P : Nat → Bool) (z z' : St) : Prop := ∀ k, P k = true → z'.1 k = z.1 k ∧ z'.2.1 k = z.2.1 k ∧ z'.2.2.1 k = z.2.2.1 k ∧ z'.2.2.2.1 k = z.2.2.2.1 k ∧ z'.2.2.2.2 k = z.2.2.2.2 k
def zRfP (k : Nat) : Bool := Nat.ble 12 k && Nat.ble k 19 || Nat.ble 147 k
def zClP (k : Nat) : Bool := Nat.ble k 11 || Nat.ble 100 k && Nat.ble k 146 || k == 193
def zPr (P : Nat → Bool) (z0 : St) {α : Type} (x : Option (α × St)) : Prop := ∀ r z', x = some (r, z') → zEq P z0 z'
theorem zEq_rf (P : Nat → Bool) (z : St) : zEq P z z := fun _ _ => ⟨rfl, rfl, rfl, rfl, rfl⟩
theorem zEq_tr {P : Nat → Bool} {a b c : St} (h1 : zEq P a b) (h2 : zEq P b c) : zEq P a c := fun k hk => ⟨(h2 k hk).1.trans (h1 k hk).1, (h2 k hk).2.1.trans (h1 k hk).2.1, (h2 k hk).2.2.1.trans (h1 k hk).2.2.1, (h2 k hk).2.2.2.1.trans (h1 k hk).2.2.2.1, (h2 k hk).2.2.2.2.trans (h1 k hk).2.2.2.2⟩
theorem zup_k {α : Type} {f : Nat → Nat → Nat → α} {k j o : Nat} {v : α} {k' : Nat} (h : k' ≠ k) : zup f k j o v k' = f k' := by
  funext j' o'
  unfold zup
  rw [if_neg (fun x => h x.1)]
theorem zEq_gI {P : Nat → Bool} {z z' : St} (h : zEq P z z') {k : Nat} (hk : P k = true) (j o : Nat) : zgI z' k j o = zgI z k j o := congrFun (congrFun (h k hk).1 j) o
theorem zEq_gR {P : Nat → Bool} {z z' : St} (h : zEq P z z') {k : Nat} (hk : P k = true) (j o : Nat) : zgR z' k j o = zgR z k j o := congrFun (congrFun (h k hk).2.1 j) o
theorem zEq_gA {P : Nat → Bool} {z z' : St} (h : zEq P z z') {k : Nat} (hk : P k = true) (o i : Nat) : zgA z' k o i = zgA z k o i := congrFun (congrFun (h k hk).2.2.1 o) i
theorem zEq_gL {P : Nat → Bool} {z z' : St} (h : zEq P z z') {k : Nat} (hk : P k = true) (o i : Nat) : zgL z' k o i = zgL z k o i := congrFun (congrFun (h k hk).2.2.2.1 o) i
theorem zEq_gQ {P : Nat → Bool} {z z' : St} (h : zEq P z z') {k : Nat} (hk : P k = true) (o i : Nat) : zgQ z' k o i = zgQ z k o i := congrFun (congrFun (h k hk).2.2.2.2 o) i
section ZFR
variable {P : Nat → Bool} {z0 z : St} {α β : Type}
theorem zEq_I {k j o : Nat} {v : Int32} (h : zEq P z0 z) (hk : P k = false) : zEq P z0 (zsI z k j o v) := zEq_tr h (fun k' h' => ⟨zup_k (fun x => by rw [x, hk] at h'; cases h'), rfl, rfl, rfl, rfl⟩)
theorem zEq_R {k j o : Nat} {v : Option Nat} (h : zEq P z0 z) (hk : P k = false) : zEq P z0 (zsR z k j o v) := zEq_tr h (fun k' h' => ⟨rfl, zup_k (fun x => by rw [x, hk] at h'; cases h'), rfl, rfl, rfl⟩)
theorem zEq_A {k j o : Nat} {v : Int32} (h : zEq P z0 z) (hk : P k = false) : zEq P z0 (zsA z k j o v) := zEq_tr h (fun k' h' => ⟨rfl, rfl, zup_k (fun x => by rw [x, hk] at h'; cases h'), rfl, rfl⟩)
theorem zEq_L {k j o : Nat} {v : Int64} (h : zEq P z0 z) (hk : P k = false) : zEq P z0 (zsL z k j o v) := zEq_tr h (fun k' h' => ⟨rfl, rfl, rfl, zup_k (fun x => by rw [x, hk] at h'; cases h'), rfl⟩)
theorem zEq_Q {k j o : Nat} {v : Option Nat} (h : zEq P z0 z) (hk : P k = false) : zEq P z0 (zsQ z k j o v) := zEq_tr h (fun k' h' => ⟨rfl, rfl, rfl, rfl, zup_k (fun x => by rw [x, hk] at h'; cases h')⟩)
theorem zEq_C {k o : Nat} {g : Nat → Int32} (h : zEq P z0 z) (hk : P k = false) : zEq P z0 (zsC z k o g) := zEq_tr h (fun k' h' => ⟨rfl, rfl, by
  funext o' i'
  show (if k' = k ∧ o' = o then g i' else z.2.2.1 k' o' i') = _
  rw [if_neg (fun x => by rw [x.1, hk] at h'; cases h')], rfl, rfl⟩)
theorem zp_s {r : α} (h : zEq P z0 z) : zPr P z0 (some (r, z)) := fun r' z' e => by
  cases e
  exact h
theorem zp_n : zPr P z0 (none : Option (α × St)) := fun r z' e => by cases e
theorem zp_l {e : β} {k : β → Option (α × St)} (h : ∀ x, zPr P z0 (k x)) : zPr P z0 (zl e k) := h e
theorem zp_lI {k j o : Nat} {v : Int32} {K : St → Option (α × St)} (h : zEq P z0 z) (hk : P k = false) (hh : ∀ z1, zEq P z0 z1 → zPr P z0 (K z1)) : zPr P z0 (zl (zsI z k j o v) K) := hh _ (zEq_I h hk)
theorem zp_lR {k j o : Nat} {v : Option Nat} {K : St → Option (α × St)} (h : zEq P z0 z) (hk : P k = false) (hh : ∀ z1, zEq P z0 z1 → zPr P z0 (K z1)) : zPr P z0 (zl (zsR z k j o v) K) := hh _ (zEq_R h hk)
theorem zp_lA {k j o : Nat} {v : Int32} {K : St → Option (α × St)} (h : zEq P z0 z) (hk : P k = false) (hh : ∀ z1, zEq P z0 z1 → zPr P z0 (K z1)) : zPr P z0 (zl (zsA z k j o v) K) := hh _ (zEq_A h hk)
theorem zp_lL {k j o : Nat} {v : Int64} {K : St → Option (α × St)} (h : zEq P z0 z) (hk : P k = false) (hh : ∀ z1, zEq P z0 z1 → zPr P z0 (K z1)) : zPr P z0 (zl (zsL z k j o v) K) := hh _ (zEq_L h hk)
theorem zp_lQ {k j o : Nat} {v : Option Nat} {K : St → Option (α × St)} (h : zEq P z0 z) (hk : P k = false) (hh : ∀ z1, zEq P z0 z1 → zPr P z0 (K z1)) : zPr P z0 (zl (zsQ z k j o v) K) := hh _ (zEq_Q h hk)
theorem zp_lC {o0 o1 : Nat} {a b c : Int32} {K : St → Option (α × St)} (h : zEq P z0 z) (hk : P 125 = false) (hh : ∀ z1, zEq P z0 z1 → zPr P z0 (K z1)) : zPr P z0 (zl (zcp z o0 o1 a b c) K) := hh _ (zEq_C h hk)
theorem zp_c {x : Option (β × St)} {K : β → St → Option (α × St)} (h : zPr P z0 x) (hh : ∀ r z1, zEq P z0 z1 → zPr P z0 (K r z1)) : zPr P z0 (zc x K) := fun r z' e => by
  obtain ⟨a, z1, e1, e2⟩ := zc_some e
  exact hh a z1 (h a z1 e1) r z' e2
theorem zp_cx {γ : Type} {x : Option ((β ⊕ Nat) × St)} {K : β → St → Option ((γ ⊕ Nat) × St)} (h : zPr P z0 x) (hh : ∀ r z1, zEq P z0 z1 → zPr P z0 (K r z1)) : zPr P z0 (zcx x K) := by
  intro r z' e
  match x, h, e with
  | some (.inl a, z1), h, e => exact hh a z1 (h _ z1 rfl) r z' e
  | some (.inr k, z1), h, e => cases e; exact h _ _ rfl
  | none, _, e => cases e
theorem zp_d {x : Option β} {K : β → Option (α × St)} (hh : ∀ a, zPr P z0 (K a)) : zPr P z0 (zd x K) := by
  cases x with
  | none => exact zp_n
  | some a => exact hh a
theorem zp_o {x : Option β} {a : Option (α × St)} {K : β → Option (α × St)} (h : zPr P z0 a) (hh : ∀ i, zPr P z0 (K i)) : zPr P z0 (zo x a K) := by
  cases x with
  | none => exact h
  | some a => exact hh a
theorem zp_k {i : Int32} {n : Nat} {k : Option (α × St)} (h : zPr P z0 k) : zPr P z0 (zk i n k) := by
  unfold zk
  split
  · exact zp_n
  · exact h
theorem zp_q {c : Prop} [dc : Decidable c] {k : Option (α × St)} (h : zPr P z0 k) : zPr P z0 (zq c k) := by
  unfold zq
  split
  · exact h
  · exact zp_n
theorem zp_i {c : Prop} [dc : Decidable c] {a b : Option (α × St)} (ha : zPr P z0 a) (hb : zPr P z0 b) : zPr P z0 (if c then a else b) := by
  split
  · exact ha
  · exact hb
end ZFR
theorem pX0_friendOf {z0 z : St} {N : Nat} {x0 : Int32} (h : zEq zRfP z0 z) : zPr zRfP z0 (fX0_friendOf N x0 z) := by
  unfold fX0_friendOf
  exact zp_s h
theorem pX0_netOfEntry {z0 z : St} {N : Nat} {x0 : Int32} (h : zEq zRfP z0 z) : zPr zRfP z0 (fX0_netOfEntry N x0 z) := by
  unfold fX0_netOfEntry
  exact zp_s h
theorem pX0_tollOf {z0 z : St} {N : Nat} {x0 : Int32} (h : zEq zRfP z0 z) : zPr zRfP z0 (fX0_tollOf N x0 z) := by
  unfold fX0_tollOf
  exact zp_s h
theorem pX0_addToDraft {z0 z : St} {N : Nat} {x0 : Nat} {x1 : Int32} {x2 : Int32} {x3 : Int32} (h : zEq zRfP z0 z) : zPr zRfP z0 (fX0_addToDraft N x0 x1 x2 x3 z) := by
  unfold fX0_addToDraft
  exact zp_i (zp_k (zp_lA h rfl (fun z3 h1 => zp_lI h1 rfl (fun z4 h2 => zp_s h2)))) (zp_s h)
theorem pX0_tellsDraft_17b {z0 z : St} {N : Nat} {K17 : Nat → Int32 → Int32 → St → Option (Int32 × St)} {x0 : Nat} {x1 : Int32} {x2 : Int32} (hK17 : ∀ a0 a1 a2 a3, zEq zRfP z0 a3 → zPr zRfP z0 (K17 a0 a1 a2 a3)) (h : zEq zRfP z0 z) : zPr zRfP z0 (fX0_tellsDraft_17b N K17 x0 x1 x2 z) := by
  unfold fX0_tellsDraft_17b
  exact zp_i (zp_s h) (zp_k (zp_k (zp_k (zp_i (zp_l (fun v6 => hK17 _ _ _ _ h)) (zp_s h)))))
theorem pX0_tellsDraft_17 {z0 : St} {N : Nat} : ∀ (n : Nat) (y0 : Nat) (y1 : Int32) (y2 : Int32) (z : St), zEq zRfP z0 z → zPr zRfP z0 (fX0_tellsDraft_17 N n y0 y1 y2 z) := by
  intro n
  induction n with
  | zero => intro y0 y1 y2 z h; exact zp_n
  | succ n ih => intro y0 y1 y2 z h; exact pX0_tellsDraft_17b  (fun _ _ _ _ h => ih _ _ _ _ h) h
theorem pX0_tellsDraft {z0 z : St} {N : Nat} {x0 : Nat} {x1 : Int32} (h : zEq zRfP z0 z) : zPr zRfP z0 (fX0_tellsDraft N x0 x1 z) := by
  unfold fX0_tellsDraft
  exact zp_k (zp_i (pX0_tellsDraft_17  _ _ _ _ _ h) (zp_s h))
theorem pX0_takeDraft_27b {z0 z : St} {N : Nat} {K27 : Nat → Int32 → Int32 → St → Option (Int32 × St)} {x0 : Nat} {x1 : Int32} {x4 : Int32} (hK27 : ∀ a0 a1 a2 a3, zEq zRfP z0 a3 → zPr zRfP z0 (K27 a0 a1 a2 a3)) (h : zEq zRfP z0 z) : zPr zRfP z0 (fX0_takeDraft_27b N K27 x0 x1 x4 z) := by
  unfold fX0_takeDraft_27b
  exact zp_i (zp_lI h rfl (fun z2 h1 => zp_s h1)) (zp_k (zp_k (zp_k (zp_lA h rfl (fun z6 h2 => zp_l (fun v7 => hK27 _ _ _ _ h2))))))
theorem pX0_takeDraft_27 {z0 : St} {N : Nat} : ∀ (n : Nat) (y0 : Nat) (y1 : Int32) (y2 : Int32) (z : St), zEq zRfP z0 z → zPr zRfP z0 (fX0_takeDraft_27 N n y0 y1 y2 z) := by
  intro n
  induction n with
  | zero => intro y0 y1 y2 z h; exact zp_n
  | succ n ih => intro y0 y1 y2 z h; exact pX0_takeDraft_27b  (fun _ _ _ _ h => ih _ _ _ _ h) h
theorem pX0_takeDraft {z0 z : St} {N : Nat} {x0 : Nat} {x1 : Int32} {x2 : Int32} {x3 : Int32} (h : zEq zRfP z0 z) : zPr zRfP z0 (fX0_takeDraft N x0 x1 x2 x3 z) := by
  unfold fX0_takeDraft
  exact zp_k (zp_lA h rfl (fun z2 h1 => zp_k (zp_lA h1 rfl (fun z4 h2 => zp_k (zp_lA h2 rfl (fun z6 h3 => pX0_takeDraft_27  _ _ _ _ _ h3))))))
theorem pX7_get2 {z0 z : St} {N : Nat} {x0 : Nat} {x1 : Int32} (h : zEq zRfP z0 z) : zPr zRfP z0 (fX7_get2 N x0 x1 z) := by
  unfold fX7_get2
  exact zp_i (zp_s h) (zp_i (zp_k (zp_k (zp_s h))) (zp_s h))
theorem pX0_takeAdvert_21b {z0 z : St} {N : Nat} {K21 : Nat → Nat → Int32 → Int32 → Int32 → Int32 → Int32 → St → Option (Int32 × St)} {x0 : Nat} {x1 : Nat} {x2 : Int32} {x3 : Int32} {x4 : Int32} {x5 : Int32} {x6 : Int32} (hK21 : ∀ a0 a1 a2 a3 a4 a5 a6 a7, zEq zRfP z0 a7 → zPr zRfP z0 (K21 a0 a1 a2 a3 a4 a5 a6 a7)) (h : zEq zRfP z0 z) : zPr zRfP z0 (fX0_takeAdvert_21b N K21 x0 x1 x2 x3 x4 x5 x6 z) := by
  unfold fX0_takeAdvert_21b
  exact zp_i (zp_c (pX0_takeDraft  h) (fun _ z3 h1 => zp_s h1)) (zp_l (fun v6 => zp_c (pX7_get2  h) (fun r7 z8 h2 => zp_c (pX7_get2  h2) (fun r11 z12 h3 => zp_c (pX7_get2  h3) (fun r15 z16 h4 => zp_c (pX0_addToDraft  h4) (fun _ z20 h5 => zp_l (fun v23 => hK21 _ _ _ _ _ _ _ _ h5)))))))
theorem pX0_takeAdvert_21 {z0 : St} {N : Nat} : ∀ (n : Nat) (y0 : Nat) (y1 : Nat) (y2 : Int32) (y3 : Int32) (y4 : Int32) (y5 : Int32) (y6 : Int32) (z : St), zEq zRfP z0 z → zPr zRfP z0 (fX0_takeAdvert_21 N n y0 y1 y2 y3 y4 y5 y6 z) := by
  intro n
  induction n with
  | zero => intro y0 y1 y2 y3 y4 y5 y6 z h; exact zp_n
  | succ n ih => intro y0 y1 y2 y3 y4 y5 y6 z h; exact pX0_takeAdvert_21b  (fun _ _ _ _ _ _ _ _ h => ih _ _ _ _ _ _ _ _ h) h
theorem pX0_takeAdvert {z0 z : St} {N : Nat} {x0 : Nat} {x1 : Nat} {x2 : Int32} {x3 : Int32} {x4 : Int32} (h : zEq zRfP z0 z) : zPr zRfP z0 (fX0_takeAdvert N x0 x1 x2 x3 x4 z) := by
  unfold fX0_takeAdvert
  exact zp_lI h rfl (fun z1 h1 => zp_c (pX7_get2  h1) (fun r2 z3 h2 => zp_l (fun v6 => pX0_takeAdvert_21  _ _ _ _ _ _ _ _ _ h2)))
theorem pX7_begin_21 {z0 z : St} {N : Nat} {x0 : Nat} {x2 : Int32} {s0 : Nat} {s1 : Int32} (h : zEq zRfP z0 z) : zPr zRfP z0 (fX7_begin_21 N x0 x2 s0 s1 z) := by
  unfold fX7_begin_21
  exact zp_lI h rfl (fun z1 h1 => zp_lI h1 rfl (fun z2 h2 => zp_lI h2 rfl (fun z3 h3 => zp_lI h3 rfl (fun z4 h4 => zp_lI h4 rfl (fun z5 h5 => zp_lI h5 rfl (fun z6 h6 => zp_s h6))))))
theorem pX7_begin_15 {z0 z : St} {N : Nat} {x0 : Nat} {x2 : Int32} {s0 : Nat} (h : zEq zRfP z0 z) : zPr zRfP z0 (fX7_begin_15 N x0 x2 s0 z) := by
  unfold fX7_begin_15
  exact pX7_begin_21  h
theorem pX7_begin {z0 z : St} {N : Nat} {x0 : Nat} {x1 : Int32} {x2 : Int32} (h : zEq zRfP z0 z) : zPr zRfP z0 (fX7_begin N x0 x1 x2 z) := by
  unfold fX7_begin
  exact zp_lI h rfl (fun z1 h1 => zp_i (pX7_begin_15  h1) (zp_i (pX7_begin_21  h1) (pX7_begin_15  h1)))
theorem pX7_put2 {z0 z : St} {N : Nat} {x0 : Nat} {x1 : Int32} {x2 : Int32} (h : zEq zRfP z0 z) : zPr zRfP z0 (fX7_put2 N x0 x1 x2 z) := by
  unfold fX7_put2
  exact zp_i (zp_s h) (zp_i (zp_k (zp_lA h rfl (fun z4 h1 => zp_k (zp_lA h1 rfl (fun z6 h2 => zp_s h2))))) (zp_s h))
theorem pX7_put4_16b {z0 z : St} {N : Nat} {K16 : Nat → Int32 → Int32 → Int32 → St → Option (Int32 × St)} {x0 : Nat} {x1 : Int32} {x2 : Int32} {x3 : Int32} (hK16 : ∀ a0 a1 a2 a3 a4, zEq zRfP z0 a4 → zPr zRfP z0 (K16 a0 a1 a2 a3 a4)) (h : zEq zRfP z0 z) : zPr zRfP z0 (fX7_put4_16b N K16 x0 x1 x2 x3 z) := by
  unfold fX7_put4_16b
  exact zp_i (zp_s h) (zp_k (zp_lA h rfl (fun z3 h1 => zp_l (fun v4 => hK16 _ _ _ _ _ h1))))
theorem pX7_put4_16 {z0 : St} {N : Nat} : ∀ (n : Nat) (y0 : Nat) (y1 : Int32) (y2 : Int32) (y3 : Int32) (z : St), zEq zRfP z0 z → zPr zRfP z0 (fX7_put4_16 N n y0 y1 y2 y3 z) := by
  intro n
  induction n with
  | zero => intro y0 y1 y2 y3 z h; exact zp_n
  | succ n ih => intro y0 y1 y2 y3 z h; exact pX7_put4_16b  (fun _ _ _ _ _ h => ih _ _ _ _ _ h) h
theorem pX7_put4 {z0 z : St} {N : Nat} {x0 : Nat} {x1 : Int32} {x2 : Int32} (h : zEq zRfP z0 z) : zPr zRfP z0 (fX7_put4 N x0 x1 x2 z) := by
  unfold fX7_put4
  exact zp_i (zp_s h) (zp_i (pX7_put4_16  _ _ _ _ _ _ h) (zp_s h))
theorem pX0_putAdvert_48b {z0 z : St} {N : Nat} {K48 : Nat → Nat → Int32 → Int32 → St → Option (Int32 × St)} {x0 : Nat} {x1 : Nat} {x2 : Int32} {x3 : Int32} (hK48 : ∀ a0 a1 a2 a3 a4, zEq zRfP z0 a4 → zPr zRfP z0 (K48 a0 a1 a2 a3 a4)) (h : zEq zRfP z0 z) : zPr zRfP z0 (fX0_putAdvert_48b N K48 x0 x1 x2 x3 z) := by
  unfold fX0_putAdvert_48b
  exact zp_k (zp_i (zp_s h) (zp_l (fun v3 => zp_k (zp_k (zp_c (pX0_friendOf  h) (fun r6 z7 h1 => zp_c (pX7_put2  h1) (fun _ z11 h2 => zp_k (zp_k (zp_c (pX0_netOfEntry  h2) (fun r16 z17 h3 => zp_c (pX7_put2  h3) (fun _ z21 h4 => zp_k (zp_k (zp_c (pX0_tollOf  h4) (fun r26 z27 h5 => zp_c (pX7_put2  h5) (fun _ z31 h6 => zp_l (fun v34 => hK48 _ _ _ _ _ h6))))))))))))))))
theorem pX0_putAdvert_48 {z0 : St} {N : Nat} : ∀ (n : Nat) (y0 : Nat) (y1 : Nat) (y2 : Int32) (y3 : Int32) (z : St), zEq zRfP z0 z → zPr zRfP z0 (fX0_putAdvert_48 N n y0 y1 y2 y3 z) := by
  intro n
  induction n with
  | zero => intro y0 y1 y2 y3 z h; exact zp_n
  | succ n ih => intro y0 y1 y2 y3 z h; exact pX0_putAdvert_48b  (fun _ _ _ _ _ h => ih _ _ _ _ _ h) h
theorem pX0_putAdvert {z0 z : St} {N : Nat} {x0 : Nat} {x1 : Nat} {x2 : Int32} (h : zEq zRfP z0 z) : zPr zRfP z0 (fX0_putAdvert N x0 x1 x2 z) := by
  unfold fX0_putAdvert
  exact zp_k (zp_c (pX7_begin  h) (fun _ z3 h1 => zp_c (pX7_put2  h1) (fun _ z7 h2 => zp_k (zp_c (pX7_put4  h2) (fun _ z12 h3 => zp_k (zp_c (pX7_put2  h3) (fun _ z17 h4 => pX0_putAdvert_48  _ _ _ _ _ _ h4)))))))
theorem pX0_takeOut {z0 z : St} {N : Nat} {x0 : Nat} {x1 : Int32} (h : zEq zRfP z0 z) : zPr zRfP z0 (fX0_takeOut N x0 x1 z) := by
  unfold fX0_takeOut
  exact zp_k (zp_lA h rfl (fun z2 h1 => zp_k (zp_lA h1 rfl (fun z4 h2 => zp_lI h2 rfl (fun z5 h3 => zp_s h3)))))
theorem pX0_tellsOfFriend_48 {z0 z : St} {N : Nat} {K3 : Nat → Int32 → Int32 → Int32 → Int32 → St → Option (Int32 × St)} {x0 : Nat} {x1 : Int32} {x2 : Int32} {x3 : Int32} {x4 : Int32} (hK3 : ∀ a0 a1 a2 a3 a4 a5, zEq zRfP z0 a5 → zPr zRfP z0 (K3 a0 a1 a2 a3 a4 a5)) (h : zEq zRfP z0 z) : zPr zRfP z0 (fX0_tellsOfFriend_48 N K3 x0 x1 x2 x3 x4 z) := by
  unfold fX0_tellsOfFriend_48
  exact zp_l (fun v1 => hK3 _ _ _ _ _ _ h)
theorem pX0_tellsOfFriend_3b {z0 z : St} {N : Nat} {K3 : Nat → Int32 → Int32 → Int32 → Int32 → St → Option (Int32 × St)} {x0 : Nat} {x1 : Int32} {x2 : Int32} {x3 : Int32} {x4 : Int32} (hK3 : ∀ a0 a1 a2 a3 a4 a5, zEq zRfP z0 a5 → zPr zRfP z0 (K3 a0 a1 a2 a3 a4 a5)) (h : zEq zRfP z0 z) : zPr zRfP z0 (fX0_tellsOfFriend_3b N K3 x0 x1 x2 x3 x4 z) := by
  unfold fX0_tellsOfFriend_3b
  exact zp_k (zp_i (zp_s h) (zp_k (zp_k (zp_c (pX0_friendOf  h) (fun r5 z6 h1 => zp_i (pX0_tellsOfFriend_48 hK3 h1) (zp_k (zp_k (zp_c (pX0_netOfEntry  h1) (fun r12 z13 h2 => zp_i (pX0_tellsOfFriend_48 hK3 h2) (zp_s h2))))))))))
theorem pX0_tellsOfFriend_3 {z0 : St} {N : Nat} : ∀ (n : Nat) (y0 : Nat) (y1 : Int32) (y2 : Int32) (y3 : Int32) (y4 : Int32) (z : St), zEq zRfP z0 z → zPr zRfP z0 (fX0_tellsOfFriend_3 N n y0 y1 y2 y3 y4 z) := by
  intro n
  induction n with
  | zero => intro y0 y1 y2 y3 y4 z h; exact zp_n
  | succ n ih => intro y0 y1 y2 y3 y4 z h; exact pX0_tellsOfFriend_3b  (fun _ _ _ _ _ _ h => ih _ _ _ _ _ _ h) h
theorem pX0_tellsOfFriend {z0 z : St} {N : Nat} {x0 : Nat} {x1 : Int32} {x2 : Int32} {x3 : Int32} (h : zEq zRfP z0 z) : zPr zRfP z0 (fX0_tellsOfFriend N x0 x1 x2 x3 z) := by
  unfold fX0_tellsOfFriend
  exact pX0_tellsOfFriend_3  _ _ _ _ _ _ _ h
theorem pX0_goOnFrom_167 {z0 z : St} {N : Nat} {K2 : Nat → Int32 → Int32 → St → Option (Int32 × St)} {x0 : Nat} {x1 : Int32} {x2 : Int32} (hK2 : ∀ a0 a1 a2 a3, zEq zRfP z0 a3 → zPr zRfP z0 (K2 a0 a1 a2 a3)) (h : zEq zRfP z0 z) : zPr zRfP z0 (fX0_goOnFrom_167 N K2 x0 x1 x2 z) := by
  unfold fX0_goOnFrom_167
  exact zp_l (fun v1 => hK2 _ _ _ _ h)
theorem pX0_goOnFrom_149 {z0 z : St} {N : Nat} {K2 : Nat → Int32 → Int32 → St → Option (Int32 × St)} {x0 : Nat} {x1 : Int32} {x2 : Int32} {x4 : Int32} {x6 : Int32} {x7 : Int32} (hK2 : ∀ a0 a1 a2 a3, zEq zRfP z0 a3 → zPr zRfP z0 (K2 a0 a1 a2 a3)) (h : zEq zRfP z0 z) : zPr zRfP z0 (fX0_goOnFrom_149 N K2 x0 x1 x2 x4 x6 x7 z) := by
  unfold fX0_goOnFrom_149
  exact zp_k (zp_lA h rfl (fun z2 h1 => zp_k (zp_lA h1 rfl (fun z4 h2 => pX0_goOnFrom_167 hK2 h2))))
theorem pX0_goOnFrom_108 {z0 z : St} {N : Nat} {K2 : Nat → Int32 → Int32 → St → Option (Int32 × St)} {x0 : Nat} {x1 : Int32} {x2 : Int32} {x4 : Int32} {x6 : Int32} {s0 : Int32} (hK2 : ∀ a0 a1 a2 a3, zEq zRfP z0 a3 → zPr zRfP z0 (K2 a0 a1 a2 a3)) (h : zEq zRfP z0 z) : zPr zRfP z0 (fX0_goOnFrom_108 N K2 x0 x1 x2 x4 x6 s0 z) := by
  unfold fX0_goOnFrom_108
  exact zp_k (zp_i (pX0_goOnFrom_167 hK2 h) (zp_k (zp_i (pX0_goOnFrom_149 hK2 h) (zp_k (zp_i (pX0_goOnFrom_149 hK2 h) (pX0_goOnFrom_167 hK2 h))))))
theorem pX0_goOnFrom_2b {z0 z : St} {N : Nat} {K2 : Nat → Int32 → Int32 → St → Option (Int32 × St)} {x0 : Nat} {x1 : Int32} {x2 : Int32} (hK2 : ∀ a0 a1 a2 a3, zEq zRfP z0 a3 → zPr zRfP z0 (K2 a0 a1 a2 a3)) (h : zEq zRfP z0 z) : zPr zRfP z0 (fX0_goOnFrom_2b N K2 x0 x1 x2 z) := by
  unfold fX0_goOnFrom_2b
  exact zp_k (zp_i (zp_s h) (zp_k (zp_k (zp_l (fun v5 => zp_c (pX0_friendOf  h) (fun r6 z7 h1 => zp_c (pX0_netOfEntry  h1) (fun r10 z11 h2 => zp_i (pX0_goOnFrom_167 hK2 h2) (zp_i (pX0_goOnFrom_167 hK2 h2) (zp_k (zp_i (pX0_goOnFrom_167 hK2 h2) (zp_c (pX0_tellsOfFriend  h2) (fun r18 z19 h3 => zp_i (zp_k (zp_c (pX0_tollOf  h3) (fun r24 z25 h4 => zp_l (fun v28 => zp_i (zp_k (pX0_goOnFrom_108 hK2 h4)) (pX0_goOnFrom_108 hK2 h4))))) (pX0_goOnFrom_167 hK2 h3)))))))))))))
theorem pX0_goOnFrom_2 {z0 : St} {N : Nat} : ∀ (n : Nat) (y0 : Nat) (y1 : Int32) (y2 : Int32) (z : St), zEq zRfP z0 z → zPr zRfP z0 (fX0_goOnFrom_2 N n y0 y1 y2 z) := by
  intro n
  induction n with
  | zero => intro y0 y1 y2 z h; exact zp_n
  | succ n ih => intro y0 y1 y2 z h; exact pX0_goOnFrom_2b  (fun _ _ _ _ h => ih _ _ _ _ h) h
theorem pX0_goOnFrom {z0 z : St} {N : Nat} {x0 : Nat} {x1 : Int32} (h : zEq zRfP z0 z) : zPr zRfP z0 (fX0_goOnFrom N x0 x1 z) := by
  unfold fX0_goOnFrom
  exact pX0_goOnFrom_2  _ _ _ _ _ h
theorem pX0_findDistances_108 {z0 z : St} {N : Nat} {K48 : Nat → Int32 → St → Option (Int32 × St)} {K58 : Nat → Int32 → Int32 → Int32 → St → Option (Int32 × St)} {x0 : Nat} {x1 : Int32} {x2 : Int32} {x3 : Int32} (hK48 : ∀ a0 a1 a2, zEq zRfP z0 a2 → zPr zRfP z0 (K48 a0 a1 a2)) (hK58 : ∀ a0 a1 a2 a3 a4, zEq zRfP z0 a4 → zPr zRfP z0 (K58 a0 a1 a2 a3 a4)) (h : zEq zRfP z0 z) : zPr zRfP z0 (fX0_findDistances_108 N K48 K58 x0 x1 x2 x3 z) := by
  unfold fX0_findDistances_108
  exact zp_l (fun v1 => hK58 _ _ _ _ _ h)
theorem pX0_findDistances_106 {z0 z : St} {N : Nat} {K48 : Nat → Int32 → St → Option (Int32 × St)} {K58 : Nat → Int32 → Int32 → Int32 → St → Option (Int32 × St)} {x0 : Nat} {x1 : Int32} {x3 : Int32} (hK48 : ∀ a0 a1 a2, zEq zRfP z0 a2 → zPr zRfP z0 (K48 a0 a1 a2)) (hK58 : ∀ a0 a1 a2 a3 a4, zEq zRfP z0 a4 → zPr zRfP z0 (K58 a0 a1 a2 a3 a4)) (h : zEq zRfP z0 z) : zPr zRfP z0 (fX0_findDistances_106 N K48 K58 x0 x1 x3 z) := by
  unfold fX0_findDistances_106
  exact pX0_findDistances_108 hK48 hK58 h
theorem pX0_findDistances_58b {z0 z : St} {N : Nat} {K48 : Nat → Int32 → St → Option (Int32 × St)} {K58 : Nat → Int32 → Int32 → Int32 → St → Option (Int32 × St)} {x0 : Nat} {x1 : Int32} {x2 : Int32} {x3 : Int32} (hK48 : ∀ a0 a1 a2, zEq zRfP z0 a2 → zPr zRfP z0 (K48 a0 a1 a2)) (hK58 : ∀ a0 a1 a2 a3 a4, zEq zRfP z0 a4 → zPr zRfP z0 (K58 a0 a1 a2 a3 a4)) (h : zEq zRfP z0 z) : zPr zRfP z0 (fX0_findDistances_58b N K48 K58 x0 x1 x2 x3 z) := by
  unfold fX0_findDistances_58b
  exact zp_i (zp_i (zp_k (zp_lA h rfl (fun z4 h1 => zp_c (pX0_goOnFrom  h1) (fun _ z6 h2 => zp_l (fun v9 => hK48 _ _ _ h2))))) (zp_s h)) (zp_k (zp_i (pX0_findDistances_108 hK48 hK58 h) (zp_k (zp_i (zp_i (pX0_findDistances_106 hK48 hK58 h) (zp_k (zp_k (zp_i (pX0_findDistances_108 hK48 hK58 h) (pX0_findDistances_106 hK48 hK58 h))))) (pX0_findDistances_108 hK48 hK58 h)))))
theorem pX0_findDistances_58 {z0 : St} {N : Nat} {K48 : Nat → Int32 → St → Option (Int32 × St)} (hK48 : ∀ a0 a1 a2, zEq zRfP z0 a2 → zPr zRfP z0 (K48 a0 a1 a2)) : ∀ (n : Nat) (y0 : Nat) (y1 : Int32) (y2 : Int32) (y3 : Int32) (z : St), zEq zRfP z0 z → zPr zRfP z0 (fX0_findDistances_58 N K48 n y0 y1 y2 y3 z) := by
  intro n
  induction n with
  | zero => intro y0 y1 y2 y3 z h; exact zp_n
  | succ n ih => intro y0 y1 y2 y3 z h; exact pX0_findDistances_58b hK48 (fun _ _ _ _ _ h => ih _ _ _ _ _ h) h
theorem pX0_findDistances_48b {z0 z : St} {N : Nat} {K48 : Nat → Int32 → St → Option (Int32 × St)} {x0 : Nat} {x1 : Int32} (hK48 : ∀ a0 a1 a2, zEq zRfP z0 a2 → zPr zRfP z0 (K48 a0 a1 a2)) (h : zEq zRfP z0 z) : zPr zRfP z0 (fX0_findDistances_48b N K48 x0 x1 z) := by
  unfold fX0_findDistances_48b
  exact zp_i (zp_s h) (pX0_findDistances_58 hK48 _ _ _ _ _ _ h)
theorem pX0_findDistances_48 {z0 : St} {N : Nat} : ∀ (n : Nat) (y0 : Nat) (y1 : Int32) (z : St), zEq zRfP z0 z → zPr zRfP z0 (fX0_findDistances_48 N n y0 y1 z) := by
  intro n
  induction n with
  | zero => intro y0 y1 z h; exact zp_n
  | succ n ih => intro y0 y1 z h; exact pX0_findDistances_48b  (fun _ _ _ h => ih _ _ _ h) h
theorem pX0_findDistances_2b {z0 z : St} {N : Nat} {K2 : Nat → Int32 → St → Option (Int32 × St)} {x0 : Nat} {x1 : Int32} (hK2 : ∀ a0 a1 a2, zEq zRfP z0 a2 → zPr zRfP z0 (K2 a0 a1 a2)) (h : zEq zRfP z0 z) : zPr zRfP z0 (fX0_findDistances_2b N K2 x0 x1 z) := by
  unfold fX0_findDistances_2b
  exact zp_i (zp_k (zp_lA h rfl (fun z3 h1 => pX0_findDistances_48  _ _ _ _ h1))) (zp_k (zp_lA h rfl (fun z5 h2 => zp_k (zp_lA h2 rfl (fun z7 h3 => zp_k (zp_lA h3 rfl (fun z9 h4 => zp_l (fun v10 => hK2 _ _ _ h4))))))))
theorem pX0_findDistances_2 {z0 : St} {N : Nat} : ∀ (n : Nat) (y0 : Nat) (y1 : Int32) (z : St), zEq zRfP z0 z → zPr zRfP z0 (fX0_findDistances_2 N n y0 y1 z) := by
  intro n
  induction n with
  | zero => intro y0 y1 z h; exact zp_n
  | succ n ih => intro y0 y1 z h; exact pX0_findDistances_2b  (fun _ _ _ h => ih _ _ _ h) h
theorem pX0_findDistances {z0 z : St} {N : Nat} {x0 : Nat} (h : zEq zRfP z0 z) : zPr zRfP z0 (fX0_findDistances N x0 z) := by
  unfold fX0_findDistances
  exact pX0_findDistances_2  _ _ _ _ h
theorem pX0_portToll_45 {z0 z : St} {N : Nat} {K2 : Nat → Int32 → Int32 → Int32 → St → Option (Int32 × St)} {x0 : Nat} {x1 : Int32} {x2 : Int32} {x3 : Int32} (hK2 : ∀ a0 a1 a2 a3 a4, zEq zRfP z0 a4 → zPr zRfP z0 (K2 a0 a1 a2 a3 a4)) (h : zEq zRfP z0 z) : zPr zRfP z0 (fX0_portToll_45 N K2 x0 x1 x2 x3 z) := by
  unfold fX0_portToll_45
  exact zp_l (fun v1 => hK2 _ _ _ _ _ h)
theorem pX0_portToll_2b {z0 z : St} {N : Nat} {K2 : Nat → Int32 → Int32 → Int32 → St → Option (Int32 × St)} {x0 : Nat} {x1 : Int32} {x2 : Int32} {x3 : Int32} (hK2 : ∀ a0 a1 a2 a3 a4, zEq zRfP z0 a4 → zPr zRfP z0 (K2 a0 a1 a2 a3 a4)) (h : zEq zRfP z0 z) : zPr zRfP z0 (fX0_portToll_2b N K2 x0 x1 x2 x3 z) := by
  unfold fX0_portToll_2b
  exact zp_k (zp_i (zp_s h) (zp_k (zp_k (zp_l (fun v5 => zp_c (pX0_friendOf  h) (fun r6 z7 h1 => zp_i (pX0_portToll_45 hK2 h1) (zp_c (pX0_netOfEntry  h1) (fun r11 z12 h2 => zp_i (pX0_portToll_45 hK2 h2) (zp_c (pX0_tollOf  h2) (fun r16 z17 h3 => zp_s h3))))))))))
theorem pX0_portToll_2 {z0 : St} {N : Nat} : ∀ (n : Nat) (y0 : Nat) (y1 : Int32) (y2 : Int32) (y3 : Int32) (z : St), zEq zRfP z0 z → zPr zRfP z0 (fX0_portToll_2 N n y0 y1 y2 y3 z) := by
  intro n
  induction n with
  | zero => intro y0 y1 y2 y3 z h; exact zp_n
  | succ n ih => intro y0 y1 y2 y3 z h; exact pX0_portToll_2b  (fun _ _ _ _ _ h => ih _ _ _ _ _ h) h
theorem pX0_portToll {z0 z : St} {N : Nat} {x0 : Nat} {x1 : Int32} {x2 : Int32} (h : zEq zRfP z0 z) : zPr zRfP z0 (fX0_portToll N x0 x1 x2 z) := by
  unfold fX0_portToll
  exact pX0_portToll_2  _ _ _ _ _ _ h
theorem pX0_setWay {z0 z : St} {N : Nat} {x0 : Nat} {x1 : Int32} {x2 : Int32} {x3 : Int32} {x4 : Int32} (h : zEq zRfP z0 z) : zPr zRfP z0 (fX0_setWay N x0 x1 x2 x3 x4 z) := by
  unfold fX0_setWay
  exact zp_k (zp_lA h rfl (fun z2 h1 => zp_k (zp_lA h1 rfl (fun z4 h2 => zp_k (zp_lA h2 rfl (fun z6 h3 => zp_s h3))))))
theorem pX0_findFarWay_108 {z0 z : St} {N : Nat} {K8 : Nat → Int32 → Int32 → Int32 → Int32 → St → Option (Int32 × St)} {x0 : Nat} {x1 : Int32} {x2 : Int32} {x3 : Int32} {x4 : Int32} (hK8 : ∀ a0 a1 a2 a3 a4 a5, zEq zRfP z0 a5 → zPr zRfP z0 (K8 a0 a1 a2 a3 a4 a5)) (h : zEq zRfP z0 z) : zPr zRfP z0 (fX0_findFarWay_108 N K8 x0 x1 x2 x3 x4 z) := by
  unfold fX0_findFarWay_108
  exact zp_l (fun v1 => hK8 _ _ _ _ _ _ h)
theorem pX0_findFarWay_96 {z0 z : St} {N : Nat} {K8 : Nat → Int32 → Int32 → Int32 → Int32 → St → Option (Int32 × St)} {x0 : Nat} {x1 : Int32} {x4 : Int32} {x5 : Int32} {s0 : Int32} (hK8 : ∀ a0 a1 a2 a3 a4 a5, zEq zRfP z0 a5 → zPr zRfP z0 (K8 a0 a1 a2 a3 a4 a5)) (h : zEq zRfP z0 z) : zPr zRfP z0 (fX0_findFarWay_96 N K8 x0 x1 x4 x5 s0 z) := by
  unfold fX0_findFarWay_96
  exact zp_k (zp_l (fun v2 => pX0_findFarWay_108 hK8 h))
theorem pX0_findFarWay_8b {z0 z : St} {N : Nat} {K8 : Nat → Int32 → Int32 → Int32 → Int32 → St → Option (Int32 × St)} {x0 : Nat} {x1 : Int32} {x2 : Int32} {x3 : Int32} {x4 : Int32} (hK8 : ∀ a0 a1 a2 a3 a4 a5, zEq zRfP z0 a5 → zPr zRfP z0 (K8 a0 a1 a2 a3 a4 a5)) (h : zEq zRfP z0 z) : zPr zRfP z0 (fX0_findFarWay_8b N K8 x0 x1 x2 x3 x4 z) := by
  unfold fX0_findFarWay_8b
  exact zp_i (zp_i (zp_c (pX0_setWay  h) (fun _ z4 h1 => zp_s h1)) (zp_c (pX0_setWay  h) (fun _ z8 h2 => zp_s h2))) (zp_k (zp_i (zp_c (pX0_portToll  h) (fun r13 z14 h3 => zp_i (pX0_findFarWay_108 hK8 h3) (zp_k (zp_i (zp_k (zp_i (zp_k (pX0_findFarWay_96 hK8 h3)) (zp_k (pX0_findFarWay_96 hK8 h3)))) (pX0_findFarWay_108 hK8 h3))))) (pX0_findFarWay_108 hK8 h)))
theorem pX0_findFarWay_8 {z0 : St} {N : Nat} : ∀ (n : Nat) (y0 : Nat) (y1 : Int32) (y2 : Int32) (y3 : Int32) (y4 : Int32) (z : St), zEq zRfP z0 z → zPr zRfP z0 (fX0_findFarWay_8 N n y0 y1 y2 y3 y4 z) := by
  intro n
  induction n with
  | zero => intro y0 y1 y2 y3 y4 z h; exact zp_n
  | succ n ih => intro y0 y1 y2 y3 y4 z h; exact pX0_findFarWay_8b  (fun _ _ _ _ _ _ h => ih _ _ _ _ _ _ h) h
theorem pX0_findFarWay {z0 z : St} {N : Nat} {x0 : Nat} {x1 : Int32} (h : zEq zRfP z0 z) : zPr zRfP z0 (fX0_findFarWay N x0 x1 z) := by
  unfold fX0_findFarWay
  exact pX0_findFarWay_8  _ _ _ _ _ _ _ h
theorem pX1_portOn_2b {z0 z : St} {N : Nat} {K2 : Nat → Int32 → Int32 → St → Option (Option Nat × St)} {x0 : Nat} {x1 : Int32} {x2 : Int32} (hK2 : ∀ a0 a1 a2 a3, zEq zRfP z0 a3 → zPr zRfP z0 (K2 a0 a1 a2 a3)) (h : zEq zRfP z0 z) : zPr zRfP z0 (fX1_portOn_2b N K2 x0 x1 x2 z) := by
  unfold fX1_portOn_2b
  exact zp_i (zp_s h) (zp_k (zp_l (fun y3 => zp_d (fun a4 => zp_l (fun y5 => zp_d (fun a6 => zp_i (zp_l (fun v8 => hK2 _ _ _ _ h)) (zp_k (zp_l (fun y10 => zp_s h)))))))))
theorem pX1_portOn_2 {z0 : St} {N : Nat} : ∀ (n : Nat) (y0 : Nat) (y1 : Int32) (y2 : Int32) (z : St), zEq zRfP z0 z → zPr zRfP z0 (fX1_portOn_2 N n y0 y1 y2 z) := by
  intro n
  induction n with
  | zero => intro y0 y1 y2 z h; exact zp_n
  | succ n ih => intro y0 y1 y2 z h; exact pX1_portOn_2b  (fun _ _ _ _ h => ih _ _ _ _ h) h
theorem pX1_portOn {z0 z : St} {N : Nat} {x0 : Nat} {x1 : Int32} (h : zEq zRfP z0 z) : zPr zRfP z0 (fX1_portOn N x0 x1 z) := by
  unfold fX1_portOn
  exact pX1_portOn_2  _ _ _ _ _ h
theorem pX0_findWays_62 {z0 z : St} {N : Nat} {K11 : Nat → Nat → Int32 → Int32 → St → Option (Int32 × St)} {x0 : Nat} {x1 : Nat} {x2 : Int32} {x3 : Int32} (hK11 : ∀ a0 a1 a2 a3 a4, zEq zRfP z0 a4 → zPr zRfP z0 (K11 a0 a1 a2 a3 a4)) (h : zEq zRfP z0 z) : zPr zRfP z0 (fX0_findWays_62 N K11 x0 x1 x2 x3 z) := by
  unfold fX0_findWays_62
  exact zp_l (fun v1 => hK11 _ _ _ _ _ h)
theorem pX0_findWays_57 {z0 z : St} {N : Nat} {K11 : Nat → Nat → Int32 → Int32 → St → Option (Int32 × St)} {x0 : Nat} {x1 : Nat} {x2 : Int32} {x3 : Int32} (hK11 : ∀ a0 a1 a2 a3 a4, zEq zRfP z0 a4 → zPr zRfP z0 (K11 a0 a1 a2 a3 a4)) (h : zEq zRfP z0 z) : zPr zRfP z0 (fX0_findWays_57 N K11 x0 x1 x2 x3 z) := by
  unfold fX0_findWays_57
  exact zp_c (pX0_findFarWay  h) (fun _ z2 h1 => pX0_findWays_62 hK11 h1)
theorem pX0_findWays_11b {z0 z : St} {N : Nat} {K11 : Nat → Nat → Int32 → Int32 → St → Option (Int32 × St)} {x0 : Nat} {x1 : Nat} {x2 : Int32} {x3 : Int32} (hK11 : ∀ a0 a1 a2 a3 a4, zEq zRfP z0 a4 → zPr zRfP z0 (K11 a0 a1 a2 a3 a4)) (h : zEq zRfP z0 z) : zPr zRfP z0 (fX0_findWays_11b N K11 x0 x1 x2 x3 z) := by
  unfold fX0_findWays_11b
  exact zp_i (zp_s h) (zp_c (pX1_portOn  h) (fun r2 z3 h1 => zp_o (pX0_findWays_57 hK11 h1) (fun a7 => zp_l (fun y8 => zp_d (fun a9 => zp_i (pX0_findWays_57 hK11 h1) (zp_c (pX0_setWay  h1) (fun _ z12 h2 => pX0_findWays_62 hK11 h2)))))))
theorem pX0_findWays_11 {z0 : St} {N : Nat} : ∀ (n : Nat) (y0 : Nat) (y1 : Nat) (y2 : Int32) (y3 : Int32) (z : St), zEq zRfP z0 z → zPr zRfP z0 (fX0_findWays_11 N n y0 y1 y2 y3 z) := by
  intro n
  induction n with
  | zero => intro y0 y1 y2 y3 z h; exact zp_n
  | succ n ih => intro y0 y1 y2 y3 z h; exact pX0_findWays_11b  (fun _ _ _ _ _ h => ih _ _ _ _ _ h) h
theorem pX0_findWays {z0 z : St} {N : Nat} {x0 : Nat} {x1 : Nat} {x2 : Int32} (h : zEq zRfP z0 z) : zPr zRfP z0 (fX0_findWays N x0 x1 x2 z) := by
  unfold fX0_findWays
  exact zp_lI h rfl (fun z1 h1 => zp_c (pX0_findDistances  h1) (fun _ z3 h2 => pX0_findWays_11  _ _ _ _ _ _ h2))
theorem pX1_nextNumber {z0 z : St} {N : Nat} {x0 : Nat} (h : zEq zRfP z0 z) : zPr zRfP z0 (fX1_nextNumber N x0 z) := by
  unfold fX1_nextNumber
  exact zp_k (zp_k (zp_lA h rfl (fun z3 h1 => zp_k (zp_s h1))))
theorem pX1_hasAddress_2b {z0 z : St} {N : Nat} {K2 : Nat → Int32 → Int32 → St → Option (Int32 × St)} {x0 : Nat} {x1 : Int32} {x2 : Int32} (hK2 : ∀ a0 a1 a2 a3, zEq zRfP z0 a3 → zPr zRfP z0 (K2 a0 a1 a2 a3)) (h : zEq zRfP z0 z) : zPr zRfP z0 (fX1_hasAddress_2b N K2 x0 x1 x2 z) := by
  unfold fX1_hasAddress_2b
  exact zp_i (zp_s h) (zp_k (zp_l (fun y3 => zp_d (fun a4 => zp_i (zp_l (fun v6 => hK2 _ _ _ _ h)) (zp_s h)))))
theorem pX1_hasAddress_2 {z0 : St} {N : Nat} : ∀ (n : Nat) (y0 : Nat) (y1 : Int32) (y2 : Int32) (z : St), zEq zRfP z0 z → zPr zRfP z0 (fX1_hasAddress_2 N n y0 y1 y2 z) := by
  intro n
  induction n with
  | zero => intro y0 y1 y2 z h; exact zp_n
  | succ n ih => intro y0 y1 y2 z h; exact pX1_hasAddress_2b  (fun _ _ _ _ h => ih _ _ _ _ h) h
theorem pX1_hasAddress {z0 z : St} {N : Nat} {x0 : Nat} {x1 : Int32} (h : zEq zRfP z0 z) : zPr zRfP z0 (fX1_hasAddress N x0 x1 z) := by
  unfold fX1_hasAddress
  exact pX1_hasAddress_2  _ _ _ _ _ h
theorem pX1_netsUp_44 {z0 z : St} {N : Nat} {K4 : Nat → Int32 → Int32 → St → Option (Int32 × St)} {x0 : Nat} {x1 : Int32} {x2 : Int32} (hK4 : ∀ a0 a1 a2 a3, zEq zRfP z0 a3 → zPr zRfP z0 (K4 a0 a1 a2 a3)) (h : zEq zRfP z0 z) : zPr zRfP z0 (fX1_netsUp_44 N K4 x0 x1 x2 z) := by
  unfold fX1_netsUp_44
  exact zp_l (fun v1 => hK4 _ _ _ _ h)
theorem pX1_netsUp_4b {z0 z : St} {N : Nat} {K4 : Nat → Int32 → Int32 → St → Option (Int32 × St)} {x0 : Nat} {x1 : Int32} {x2 : Int32} (hK4 : ∀ a0 a1 a2 a3, zEq zRfP z0 a3 → zPr zRfP z0 (K4 a0 a1 a2 a3)) (h : zEq zRfP z0 z) : zPr zRfP z0 (fX1_netsUp_4b N K4 x0 x1 x2 z) := by
  unfold fX1_netsUp_4b
  exact zp_i (zp_s h) (zp_k (zp_l (fun y3 => zp_d (fun a4 => zp_l (fun y5 => zp_d (fun a6 => zp_i (pX1_netsUp_44 hK4 h) (zp_k (zp_l (fun y9 => zp_d (fun a10 => zp_l (fun y11 => zp_d (fun a12 => zp_l (fun v13 => pX1_netsUp_44 hK4 h)))))))))))))
theorem pX1_netsUp_4 {z0 : St} {N : Nat} : ∀ (n : Nat) (y0 : Nat) (y1 : Int32) (y2 : Int32) (z : St), zEq zRfP z0 z → zPr zRfP z0 (fX1_netsUp_4 N n y0 y1 y2 z) := by
  intro n
  induction n with
  | zero => intro y0 y1 y2 z h; exact zp_n
  | succ n ih => intro y0 y1 y2 z h; exact pX1_netsUp_4b  (fun _ _ _ _ h => ih _ _ _ _ h) h
theorem pX1_netsUp {z0 z : St} {N : Nat} {x0 : Nat} (h : zEq zRfP z0 z) : zPr zRfP z0 (fX1_netsUp N x0 z) := by
  unfold fX1_netsUp
  exact pX1_netsUp_4  _ _ _ _ _ h
theorem pX1_partialFor_72 {z0 z : St} {N : Nat} {K2 : Nat → Nat → Int32 → St → Option (Int32 × St)} {x0 : Nat} {x1 : Nat} {x2 : Int32} (hK2 : ∀ a0 a1 a2 a3, zEq zRfP z0 a3 → zPr zRfP z0 (K2 a0 a1 a2 a3)) (h : zEq zRfP z0 z) : zPr zRfP z0 (fX1_partialFor_72 N K2 x0 x1 x2 z) := by
  unfold fX1_partialFor_72
  exact zp_l (fun v1 => hK2 _ _ _ _ h)
theorem pX1_partialFor_2b {z0 z : St} {N : Nat} {K2 : Nat → Nat → Int32 → St → Option (Int32 × St)} {x0 : Nat} {x1 : Nat} {x2 : Int32} (hK2 : ∀ a0 a1 a2 a3, zEq zRfP z0 a3 → zPr zRfP z0 (K2 a0 a1 a2 a3)) (h : zEq zRfP z0 z) : zPr zRfP z0 (fX1_partialFor_2b N K2 x0 x1 x2 z) := by
  unfold fX1_partialFor_2b
  exact zp_i (zp_s h) (zp_k (zp_l (fun y3 => zp_k (zp_i (pX1_partialFor_72 hK2 h) (zp_d (fun a6 => zp_i (pX1_partialFor_72 hK2 h) (zp_i (zp_i (pX1_partialFor_72 hK2 h) (zp_i (pX1_partialFor_72 hK2 h) (zp_s h))) (pX1_partialFor_72 hK2 h))))))))
theorem pX1_partialFor_2 {z0 : St} {N : Nat} : ∀ (n : Nat) (y0 : Nat) (y1 : Nat) (y2 : Int32) (z : St), zEq zRfP z0 z → zPr zRfP z0 (fX1_partialFor_2 N n y0 y1 y2 z) := by
  intro n
  induction n with
  | zero => intro y0 y1 y2 z h; exact zp_n
  | succ n ih => intro y0 y1 y2 z h; exact pX1_partialFor_2b  (fun _ _ _ _ h => ih _ _ _ _ h) h
theorem pX1_partialFor {z0 z : St} {N : Nat} {x0 : Nat} {x1 : Nat} (h : zEq zRfP z0 z) : zPr zRfP z0 (fX1_partialFor N x0 x1 z) := by
  unfold fX1_partialFor
  exact pX1_partialFor_2  _ _ _ _ _ h
theorem pX1_emptyPartial_2b {z0 z : St} {N : Nat} {K2 : Nat → Int32 → St → Option (Int32 × St)} {x0 : Nat} {x1 : Int32} (hK2 : ∀ a0 a1 a2, zEq zRfP z0 a2 → zPr zRfP z0 (K2 a0 a1 a2)) (h : zEq zRfP z0 z) : zPr zRfP z0 (fX1_emptyPartial_2b N K2 x0 x1 z) := by
  unfold fX1_emptyPartial_2b
  exact zp_i (zp_s h) (zp_k (zp_i (zp_l (fun v4 => hK2 _ _ _ h)) (zp_s h)))
theorem pX1_emptyPartial_2 {z0 : St} {N : Nat} : ∀ (n : Nat) (y0 : Nat) (y1 : Int32) (z : St), zEq zRfP z0 z → zPr zRfP z0 (fX1_emptyPartial_2 N n y0 y1 z) := by
  intro n
  induction n with
  | zero => intro y0 y1 z h; exact zp_n
  | succ n ih => intro y0 y1 z h; exact pX1_emptyPartial_2b  (fun _ _ _ h => ih _ _ _ h) h
theorem pX1_emptyPartial {z0 z : St} {N : Nat} {x0 : Nat} (h : zEq zRfP z0 z) : zPr zRfP z0 (fX1_emptyPartial N x0 z) := by
  unfold fX1_emptyPartial
  exact pX1_emptyPartial_2  _ _ _ _ h
theorem pX1_earliestPartial_26 {z0 z : St} {N : Nat} {K4 : Nat → Int32 → Int32 → St → Option (Int32 × St)} {x0 : Nat} {x1 : Int32} {x2 : Int32} (hK4 : ∀ a0 a1 a2 a3, zEq zRfP z0 a3 → zPr zRfP z0 (K4 a0 a1 a2 a3)) (h : zEq zRfP z0 z) : zPr zRfP z0 (fX1_earliestPartial_26 N K4 x0 x1 x2 z) := by
  unfold fX1_earliestPartial_26
  exact zp_l (fun v1 => hK4 _ _ _ _ h)
theorem pX1_earliestPartial_4b {z0 z : St} {N : Nat} {K4 : Nat → Int32 → Int32 → St → Option (Int32 × St)} {x0 : Nat} {x1 : Int32} {x2 : Int32} (hK4 : ∀ a0 a1 a2 a3, zEq zRfP z0 a3 → zPr zRfP z0 (K4 a0 a1 a2 a3)) (h : zEq zRfP z0 z) : zPr zRfP z0 (fX1_earliestPartial_4b N K4 x0 x1 x2 z) := by
  unfold fX1_earliestPartial_4b
  exact zp_i (zp_s h) (zp_k (zp_k (zp_i (pX1_earliestPartial_26 hK4 h) (pX1_earliestPartial_26 hK4 h))))
theorem pX1_earliestPartial_4 {z0 : St} {N : Nat} : ∀ (n : Nat) (y0 : Nat) (y1 : Int32) (y2 : Int32) (z : St), zEq zRfP z0 z → zPr zRfP z0 (fX1_earliestPartial_4 N n y0 y1 y2 z) := by
  intro n
  induction n with
  | zero => intro y0 y1 y2 z h; exact zp_n
  | succ n ih => intro y0 y1 y2 z h; exact pX1_earliestPartial_4b  (fun _ _ _ _ h => ih _ _ _ _ h) h
theorem pX1_earliestPartial {z0 z : St} {N : Nat} {x0 : Nat} (h : zEq zRfP z0 z) : zPr zRfP z0 (fX1_earliestPartial N x0 z) := by
  unfold fX1_earliestPartial
  exact pX1_earliestPartial_4  _ _ _ _ _ h
theorem pX7_copyPart {z0 z : St} {N : Nat} {x0 : Nat} {x1 : Nat} {x2 : Int32} {x3 : Int32} (h : zEq zRfP z0 z) : zPr zRfP z0 (fX7_copyPart N x0 x1 x2 x3 z) := by
  unfold fX7_copyPart
  exact zp_lI h rfl (fun z1 h1 => zp_lI h1 rfl (fun z2 h2 => zp_lI h2 rfl (fun z3 h3 => zp_lI h3 rfl (fun z4 h4 => zp_lI h4 rfl (fun z5 h5 => zp_lI h5 rfl (fun z6 h6 => zp_lI h6 rfl (fun z7 h7 => zp_lI h7 rfl (fun z8 h8 => zp_lI h8 rfl (fun z9 h9 => zp_lI h9 rfl (fun z10 h10 => zp_i (zp_s h10) (zp_i (zp_s h10) (zp_i (zp_s h10) (zp_q (zp_lC h10 rfl (fun z15 h11 => zp_s h11)))))))))))))))
theorem pX1_beginPartial_34b {z0 z : St} {N : Nat} {K34 : Nat → Int32 → Int32 → Int32 → St → Option (Int32 × St)} {x0 : Nat} {x1 : Int32} {x3 : Int32} {x5 : Int32} (hK34 : ∀ a0 a1 a2 a3 a4, zEq zRfP z0 a4 → zPr zRfP z0 (K34 a0 a1 a2 a3 a4)) (h : zEq zRfP z0 z) : zPr zRfP z0 (fX1_beginPartial_34b N K34 x0 x1 x3 x5 z) := by
  unfold fX1_beginPartial_34b
  exact zp_i (zp_k (zp_lA h rfl (fun z3 h1 => zp_lI h1 rfl (fun z4 h2 => zp_k (zp_lA h2 rfl (fun z6 h3 => zp_s h3)))))) (zp_k (zp_k (zp_lL h rfl (fun z9 h4 => zp_l (fun v10 => hK34 _ _ _ _ _ h4)))))
theorem pX1_beginPartial_34 {z0 : St} {N : Nat} : ∀ (n : Nat) (y0 : Nat) (y1 : Int32) (y2 : Int32) (y3 : Int32) (z : St), zEq zRfP z0 z → zPr zRfP z0 (fX1_beginPartial_34 N n y0 y1 y2 y3 z) := by
  intro n
  induction n with
  | zero => intro y0 y1 y2 y3 z h; exact zp_n
  | succ n ih => intro y0 y1 y2 y3 z h; exact pX1_beginPartial_34b  (fun _ _ _ _ _ h => ih _ _ _ _ _ h) h
theorem pX1_beginPartial {z0 z : St} {N : Nat} {x0 : Nat} {x1 : Int32} {x2 : Nat} {x3 : Int32} (h : zEq zRfP z0 z) : zPr zRfP z0 (fX1_beginPartial N x0 x1 x2 x3 z) := by
  unfold fX1_beginPartial
  exact zp_k (zp_l (fun y2 => zp_d (fun a3 => zp_c (pX7_copyPart  h) (fun _ z5 h1 => zp_lI h1 rfl (fun z8 h2 => zp_lI h2 rfl (fun z9 h3 => pX1_beginPartial_34  _ _ _ _ _ _ h3))))))
theorem pJ13_bitCount_95d88 {P : Nat → Bool} {z0 z : St} {N : Nat} {x0 : Int64} (h : zEq P z0 z) : zPr P z0 (fJ13_bitCount_95d88 N x0 z) := by
  unfold fJ13_bitCount_95d88
  exact zp_l (fun v1 => zp_l (fun v2 => zp_l (fun v3 => zp_l (fun v4 => zp_l (fun v5 => zp_l (fun v6 => zp_s h))))))
theorem pX1_addPiece_135 {z0 z : St} {N : Nat} {K41 : Nat → Int32 → Nat → Nat → Int32 → Int32 → St → Option (Int32 × St)} {x0 : Nat} {x1 : Int32} {x2 : Nat} {x3 : Nat} {x4 : Int32} {x5 : Int32} (hK41 : ∀ a0 a1 a2 a3 a4 a5 a6, zEq zRfP z0 a6 → zPr zRfP z0 (K41 a0 a1 a2 a3 a4 a5 a6)) (h : zEq zRfP z0 z) : zPr zRfP z0 (fX1_addPiece_135 N K41 x0 x1 x2 x3 x4 x5 z) := by
  unfold fX1_addPiece_135
  exact zp_l (fun v1 => hK41 _ _ _ _ _ _ _ h)
theorem pX1_addPiece_147b {z0 z : St} {N : Nat} {K147 : Nat → Int32 → Nat → Int32 → Int32 → St → Option (Int32 × St)} {x0 : Nat} {x1 : Int32} {x3 : Nat} {x5 : Int32} {x6 : Int32} (hK147 : ∀ a0 a1 a2 a3 a4 a5, zEq zRfP z0 a5 → zPr zRfP z0 (K147 a0 a1 a2 a3 a4 a5)) (h : zEq zRfP z0 z) : zPr zRfP z0 (fX1_addPiece_147b N K147 x0 x1 x3 x5 x6 z) := by
  unfold fX1_addPiece_147b
  exact zp_i (zp_i (zp_s h) (zp_s h)) (zp_k (zp_k (zp_c (pJ13_bitCount_95d88  h) (fun r5 z6 h1 => zp_l (fun v9 => zp_l (fun v10 => hK147 _ _ _ _ _ _ h1))))))
theorem pX1_addPiece_147 {z0 : St} {N : Nat} : ∀ (n : Nat) (y0 : Nat) (y1 : Int32) (y2 : Nat) (y3 : Int32) (y4 : Int32) (z : St), zEq zRfP z0 z → zPr zRfP z0 (fX1_addPiece_147 N n y0 y1 y2 y3 y4 z) := by
  intro n
  induction n with
  | zero => intro y0 y1 y2 y3 y4 z h; exact zp_n
  | succ n ih => intro y0 y1 y2 y3 y4 z h; exact pX1_addPiece_147b  (fun _ _ _ _ _ _ h => ih _ _ _ _ _ _ h) h
theorem pX1_addPiece_41b {z0 z : St} {N : Nat} {K41 : Nat → Int32 → Nat → Nat → Int32 → Int32 → St → Option (Int32 × St)} {x0 : Nat} {x1 : Int32} {x2 : Nat} {x3 : Nat} {x4 : Int32} {x5 : Int32} (hK41 : ∀ a0 a1 a2 a3 a4 a5 a6, zEq zRfP z0 a6 → zPr zRfP z0 (K41 a0 a1 a2 a3 a4 a5 a6)) (h : zEq zRfP z0 z) : zPr zRfP z0 (fX1_addPiece_41b N K41 x0 x1 x2 x3 x4 x5 z) := by
  unfold fX1_addPiece_41b
  exact zp_i (pX1_addPiece_147  _ _ _ _ _ _ _ h) (zp_l (fun v2 => zp_k (zp_k (zp_i (zp_k (zp_k (zp_k (zp_lL h rfl (fun z9 h1 => zp_q (zp_lC h1 rfl (fun z11 h2 => pX1_addPiece_135 hK41 h2))))))) (pX1_addPiece_135 hK41 h)))))
theorem pX1_addPiece_41 {z0 : St} {N : Nat} : ∀ (n : Nat) (y0 : Nat) (y1 : Int32) (y2 : Nat) (y3 : Nat) (y4 : Int32) (y5 : Int32) (z : St), zEq zRfP z0 z → zPr zRfP z0 (fX1_addPiece_41 N n y0 y1 y2 y3 y4 y5 z) := by
  intro n
  induction n with
  | zero => intro y0 y1 y2 y3 y4 y5 z h; exact zp_n
  | succ n ih => intro y0 y1 y2 y3 y4 y5 z h; exact pX1_addPiece_41b  (fun _ _ _ _ _ _ _ h => ih _ _ _ _ _ _ _ h) h
theorem pX1_addPiece {z0 z : St} {N : Nat} {x0 : Nat} {x1 : Int32} {x2 : Nat} (h : zEq zRfP z0 z) : zPr zRfP z0 (fX1_addPiece N x0 x1 x2 z) := by
  unfold fX1_addPiece
  exact zp_k (zp_l (fun y2 => zp_d (fun a3 => zp_l (fun v4 => zp_l (fun v5 => pX1_addPiece_41  _ _ _ _ _ _ _ _ h)))))
theorem pX1_unusedDoor_2b {z0 z : St} {N : Nat} {K2 : Nat → Int32 → St → Option (Int32 × St)} {x0 : Nat} {x1 : Int32} (hK2 : ∀ a0 a1 a2, zEq zRfP z0 a2 → zPr zRfP z0 (K2 a0 a1 a2)) (h : zEq zRfP z0 z) : zPr zRfP z0 (fX1_unusedDoor_2b N K2 x0 x1 z) := by
  unfold fX1_unusedDoor_2b
  exact zp_i (zp_s h) (zp_k (zp_l (fun y3 => zp_d (fun a4 => zp_i (zp_l (fun v6 => hK2 _ _ _ h)) (zp_s h)))))
theorem pX1_unusedDoor_2 {z0 : St} {N : Nat} : ∀ (n : Nat) (y0 : Nat) (y1 : Int32) (z : St), zEq zRfP z0 z → zPr zRfP z0 (fX1_unusedDoor_2 N n y0 y1 z) := by
  intro n
  induction n with
  | zero => intro y0 y1 z h; exact zp_n
  | succ n ih => intro y0 y1 z h; exact pX1_unusedDoor_2b  (fun _ _ _ h => ih _ _ _ h) h
theorem pX1_unusedDoor {z0 z : St} {N : Nat} {x0 : Nat} (h : zEq zRfP z0 z) : zPr zRfP z0 (fX1_unusedDoor N x0 z) := by
  unfold fX1_unusedDoor
  exact pX1_unusedDoor_2  _ _ _ _ h
theorem pX1_listenerAt_39 {z0 z : St} {N : Nat} {K2 : Nat → Int32 → Int32 → St → Option (Int32 × St)} {x0 : Nat} {x1 : Int32} {x2 : Int32} (hK2 : ∀ a0 a1 a2 a3, zEq zRfP z0 a3 → zPr zRfP z0 (K2 a0 a1 a2 a3)) (h : zEq zRfP z0 z) : zPr zRfP z0 (fX1_listenerAt_39 N K2 x0 x1 x2 z) := by
  unfold fX1_listenerAt_39
  exact zp_l (fun v1 => hK2 _ _ _ _ h)
theorem pX1_listenerAt_2b {z0 z : St} {N : Nat} {K2 : Nat → Int32 → Int32 → St → Option (Int32 × St)} {x0 : Nat} {x1 : Int32} {x2 : Int32} (hK2 : ∀ a0 a1 a2 a3, zEq zRfP z0 a3 → zPr zRfP z0 (K2 a0 a1 a2 a3)) (h : zEq zRfP z0 z) : zPr zRfP z0 (fX1_listenerAt_2b N K2 x0 x1 x2 z) := by
  unfold fX1_listenerAt_2b
  exact zp_i (zp_s h) (zp_k (zp_l (fun y3 => zp_d (fun a4 => zp_i (pX1_listenerAt_39 hK2 h) (zp_k (zp_l (fun y7 => zp_d (fun a8 => zp_i (pX1_listenerAt_39 hK2 h) (zp_s h)))))))))
theorem pX1_listenerAt_2 {z0 : St} {N : Nat} : ∀ (n : Nat) (y0 : Nat) (y1 : Int32) (y2 : Int32) (z : St), zEq zRfP z0 z → zPr zRfP z0 (fX1_listenerAt_2 N n y0 y1 y2 z) := by
  intro n
  induction n with
  | zero => intro y0 y1 y2 z h; exact zp_n
  | succ n ih => intro y0 y1 y2 z h; exact pX1_listenerAt_2b  (fun _ _ _ _ h => ih _ _ _ _ h) h
theorem pX1_listenerAt {z0 z : St} {N : Nat} {x0 : Nat} {x1 : Int32} (h : zEq zRfP z0 z) : zPr zRfP z0 (fX1_listenerAt N x0 x1 z) := by
  unfold fX1_listenerAt
  exact pX1_listenerAt_2  _ _ _ _ _ h
theorem pX2_isFor {z0 z : St} {N : Nat} {x0 : Nat} {x1 : Int32} {x2 : Int32} {x3 : Int32} (h : zEq zRfP z0 z) : zPr zRfP z0 (fX2_isFor N x0 x1 x2 x3 z) := by
  unfold fX2_isFor
  exact zp_i (zp_s h) (zp_i (zp_s h) (zp_i (zp_s h) (zp_i (zp_s h) (zp_s h))))
theorem pX3_isDead_16 {z0 z : St} {N : Nat} (h : zEq zRfP z0 z) : zPr zRfP z0 (fX3_isDead_16 N z) := by
  unfold fX3_isDead_16
  exact zp_s h
theorem pX3_isDead {z0 z : St} {N : Nat} {x0 : Nat} (h : zEq zRfP z0 z) : zPr zRfP z0 (fX3_isDead N x0 z) := by
  unfold fX3_isDead
  exact zp_i (pX3_isDead_16  h) (zp_i (zp_s h) (pX3_isDead_16  h))
theorem pX1_liveDoor_53 {z0 z : St} {N : Nat} {K3 : Nat → Int32 → Int32 → Int32 → Int32 → St → Option (Option Nat × St)} {x0 : Nat} {x1 : Int32} {x2 : Int32} {x3 : Int32} {x4 : Int32} (hK3 : ∀ a0 a1 a2 a3 a4 a5, zEq zRfP z0 a5 → zPr zRfP z0 (K3 a0 a1 a2 a3 a4 a5)) (h : zEq zRfP z0 z) : zPr zRfP z0 (fX1_liveDoor_53 N K3 x0 x1 x2 x3 x4 z) := by
  unfold fX1_liveDoor_53
  exact zp_l (fun v1 => hK3 _ _ _ _ _ _ h)
theorem pX1_liveDoor_3b {z0 z : St} {N : Nat} {K3 : Nat → Int32 → Int32 → Int32 → Int32 → St → Option (Option Nat × St)} {x0 : Nat} {x1 : Int32} {x2 : Int32} {x3 : Int32} {x4 : Int32} (hK3 : ∀ a0 a1 a2 a3 a4 a5, zEq zRfP z0 a5 → zPr zRfP z0 (K3 a0 a1 a2 a3 a4 a5)) (h : zEq zRfP z0 z) : zPr zRfP z0 (fX1_liveDoor_3b N K3 x0 x1 x2 x3 x4 z) := by
  unfold fX1_liveDoor_3b
  exact zp_i (zp_s h) (zp_k (zp_l (fun y3 => zp_d (fun a4 => zp_c (pX2_isFor  h) (fun r5 z6 h1 => zp_i (pX1_liveDoor_53 hK3 h1) (zp_k (zp_l (fun y11 => zp_d (fun a12 => zp_l (fun y13 => zp_d (fun a14 => zp_c (pX3_isDead  h1) (fun r15 z16 h2 => zp_i (pX1_liveDoor_53 hK3 h2) (zp_k (zp_l (fun y21 => zp_s h2)))))))))))))))
theorem pX1_liveDoor_3 {z0 : St} {N : Nat} : ∀ (n : Nat) (y0 : Nat) (y1 : Int32) (y2 : Int32) (y3 : Int32) (y4 : Int32) (z : St), zEq zRfP z0 z → zPr zRfP z0 (fX1_liveDoor_3 N n y0 y1 y2 y3 y4 z) := by
  intro n
  induction n with
  | zero => intro y0 y1 y2 y3 y4 z h; exact zp_n
  | succ n ih => intro y0 y1 y2 y3 y4 z h; exact pX1_liveDoor_3b  (fun _ _ _ _ _ _ h => ih _ _ _ _ _ _ h) h
theorem pX1_liveDoor {z0 z : St} {N : Nat} {x0 : Nat} {x1 : Int32} {x2 : Int32} {x3 : Int32} (h : zEq zRfP z0 z) : zPr zRfP z0 (fX1_liveDoor N x0 x1 x2 x3 z) := by
  unfold fX1_liveDoor
  exact pX1_liveDoor_3  _ _ _ _ _ _ _ h
theorem pX1_doorThrough_54 {z0 z : St} {N : Nat} {K4 : Nat → Int32 → Int32 → Int32 → St → Option (Option Nat × St)} {x0 : Nat} {x1 : Int32} {x2 : Int32} {x3 : Int32} (hK4 : ∀ a0 a1 a2 a3 a4, zEq zRfP z0 a4 → zPr zRfP z0 (K4 a0 a1 a2 a3 a4)) (h : zEq zRfP z0 z) : zPr zRfP z0 (fX1_doorThrough_54 N K4 x0 x1 x2 x3 z) := by
  unfold fX1_doorThrough_54
  exact zp_l (fun v1 => hK4 _ _ _ _ _ h)
theorem pX1_doorThrough_82 {z0 z : St} {N : Nat} (h : zEq zRfP z0 z) : zPr zRfP z0 (fX1_doorThrough_82 N z) := by
  unfold fX1_doorThrough_82
  exact zp_s h
theorem pX1_doorThrough_4b {z0 z : St} {N : Nat} {K4 : Nat → Int32 → Int32 → Int32 → St → Option (Option Nat × St)} {x0 : Nat} {x1 : Int32} {x2 : Int32} {x3 : Int32} (hK4 : ∀ a0 a1 a2 a3 a4, zEq zRfP z0 a4 → zPr zRfP z0 (K4 a0 a1 a2 a3 a4)) (h : zEq zRfP z0 z) : zPr zRfP z0 (fX1_doorThrough_4b N K4 x0 x1 x2 x3 z) := by
  unfold fX1_doorThrough_4b
  exact zp_i (zp_c (pX1_unusedDoor  h) (fun r2 z3 h1 => zp_i (pX1_doorThrough_82  h1) (zp_k (zp_l (fun y8 => zp_d (fun a9 => zp_i (zp_k (zp_l (fun y12 => zp_s h1))) (pX1_doorThrough_82  h1))))))) (zp_k (zp_l (fun y14 => zp_d (fun a15 => zp_i (pX1_doorThrough_54 hK4 h) (zp_i (pX1_doorThrough_54 hK4 h) (zp_l (fun y18 => zp_d (fun a19 => zp_i (pX1_doorThrough_54 hK4 h) (zp_l (fun v21 => pX1_doorThrough_54 hK4 h))))))))))
theorem pX1_doorThrough_4 {z0 : St} {N : Nat} : ∀ (n : Nat) (y0 : Nat) (y1 : Int32) (y2 : Int32) (y3 : Int32) (z : St), zEq zRfP z0 z → zPr zRfP z0 (fX1_doorThrough_4 N n y0 y1 y2 y3 z) := by
  intro n
  induction n with
  | zero => intro y0 y1 y2 y3 z h; exact zp_n
  | succ n ih => intro y0 y1 y2 y3 z h; exact pX1_doorThrough_4b  (fun _ _ _ _ _ h => ih _ _ _ _ _ h) h
theorem pX1_doorThrough {z0 z : St} {N : Nat} {x0 : Nat} {x1 : Int32} (h : zEq zRfP z0 z) : zPr zRfP z0 (fX1_doorThrough N x0 x1 z) := by
  unfold fX1_doorThrough
  exact pX1_doorThrough_4  _ _ _ _ _ _ h
theorem pX2_setUnused {z0 z : St} {N : Nat} {x0 : Nat} (h : zEq zRfP z0 z) : zPr zRfP z0 (fX2_setUnused N x0 z) := by
  unfold fX2_setUnused
  exact zp_lI h rfl (fun z1 h1 => zp_lI h1 rfl (fun z2 h2 => zp_lI h2 rfl (fun z3 h3 => zp_lI h3 rfl (fun z4 h4 => zp_lI h4 rfl (fun z5 h5 => zp_lI h5 rfl (fun z6 h6 => zp_s h6))))))
theorem pX2_startListening {z0 z : St} {N : Nat} {x0 : Nat} {x1 : Int32} {x2 : Int32} (h : zEq zRfP z0 z) : zPr zRfP z0 (fX2_startListening N x0 x1 x2 z) := by
  unfold fX2_startListening
  exact zp_lI h rfl (fun z1 h1 => zp_lI h1 rfl (fun z2 h2 => zp_lI h2 rfl (fun z3 h3 => zp_s h3)))
theorem pX2_giveEnd {z0 z : St} {N : Nat} {x0 : Nat} {x1 : Int32} {x2 : Int32} {x3 : Int32} (h : zEq zRfP z0 z) : zPr zRfP z0 (fX2_giveEnd N x0 x1 x2 x3 z) := by
  unfold fX2_giveEnd
  exact zp_lI h rfl (fun z1 h1 => zp_lI h1 rfl (fun z2 h2 => zp_lI h2 rfl (fun z3 h3 => zp_lI h3 rfl (fun z4 h4 => zp_lI h4 rfl (fun z5 h5 => zp_lI h5 rfl (fun z6 h6 => zp_lI h6 rfl (fun z7 h7 => zp_lI h7 rfl (fun z8 h8 => zp_lI h8 rfl (fun z9 h9 => zp_lI h9 rfl (fun z10 h10 => zp_lI h10 rfl (fun z11 h11 => zp_s h11)))))))))))
theorem pX2_takesBytes {z0 z : St} {N : Nat} {x0 : Nat} (h : zEq zRfP z0 z) : zPr zRfP z0 (fX2_takesBytes N x0 z) := by
  unfold fX2_takesBytes
  exact zp_i (zp_s h) (zp_l (fun y2 => zp_d (fun a3 => zp_l (fun y4 => zp_d (fun a5 => zp_i (zp_s h) (zp_l (fun y7 => zp_d (fun a8 => zp_i (zp_s h) (zp_l (fun y10 => zp_d (fun a11 => zp_c (pX3_isDead  h) (fun r12 z13 h1 => zp_i (zp_s h1) (zp_s h1)))))))))))))
theorem pX10_begin {z0 z : St} {N : Nat} {x0 : Nat} (h : zEq zRfP z0 z) : zPr zRfP z0 (fX10_begin N x0 z) := by
  unfold fX10_begin
  exact zp_lI h rfl (fun z1 h1 => zp_lI h1 rfl (fun z2 h2 => zp_lI h2 rfl (fun z3 h3 => zp_lI h3 rfl (fun z4 h4 => zp_lI h4 rfl (fun z5 h5 => zp_lI h5 rfl (fun z6 h6 => zp_lI h6 rfl (fun z7 h7 => zp_s h7)))))))
theorem pX4_begin_32b {z0 z : St} {N : Nat} {K32 : Nat → Int32 → St → Option (Int32 × St)} {x0 : Nat} {x1 : Int32} (hK32 : ∀ a0 a1 a2, zEq zRfP z0 a2 → zPr zRfP z0 (K32 a0 a1 a2)) (h : zEq zRfP z0 z) : zPr zRfP z0 (fX4_begin_32b N K32 x0 x1 z) := by
  unfold fX4_begin_32b
  exact zp_i (zp_s h) (zp_k (zp_lA h rfl (fun z3 h1 => zp_l (fun v4 => hK32 _ _ _ h1))))
theorem pX4_begin_32 {z0 : St} {N : Nat} : ∀ (n : Nat) (y0 : Nat) (y1 : Int32) (z : St), zEq zRfP z0 z → zPr zRfP z0 (fX4_begin_32 N n y0 y1 z) := by
  intro n
  induction n with
  | zero => intro y0 y1 z h; exact zp_n
  | succ n ih => intro y0 y1 z h; exact pX4_begin_32b  (fun _ _ _ h => ih _ _ _ h) h
theorem pX4_begin {z0 z : St} {N : Nat} {x0 : Nat} (h : zEq zRfP z0 z) : zPr zRfP z0 (fX4_begin N x0 z) := by
  unfold fX4_begin
  exact zp_lI h rfl (fun z1 h1 => zp_lI h1 rfl (fun z2 h2 => zp_lI h2 rfl (fun z3 h3 => zp_lI h3 rfl (fun z4 h4 => zp_lI h4 rfl (fun z5 h5 => zp_lI h5 rfl (fun z6 h6 => pX4_begin_32  _ _ _ _ h6))))))
theorem pX6_begin {z0 z : St} {N : Nat} {x0 : Nat} {x1 : Int32} (h : zEq zRfP z0 z) : zPr zRfP z0 (fX6_begin N x0 x1 z) := by
  unfold fX6_begin
  exact zp_lI h rfl (fun z1 h1 => zp_lI h1 rfl (fun z2 h2 => zp_lI h2 rfl (fun z3 h3 => zp_lI h3 rfl (fun z4 h4 => zp_lI h4 rfl (fun z5 h5 => zp_lI h5 rfl (fun z6 h6 => zp_lI h6 rfl (fun z7 h7 => zp_lI h7 rfl (fun z8 h8 => zp_lI h8 rfl (fun z9 h9 => zp_lI h9 rfl (fun z10 h10 => zp_lI h10 rfl (fun z11 h11 => zp_lI h11 rfl (fun z12 h12 => zp_lI h12 rfl (fun z13 h13 => zp_s h13)))))))))))))
theorem pX3_beginAgain {z0 z : St} {N : Nat} {x0 : Nat} {x1 : Int32} (h : zEq zRfP z0 z) : zPr zRfP z0 (fX3_beginAgain N x0 x1 z) := by
  unfold fX3_beginAgain
  exact zp_lI h rfl (fun z1 h1 => zp_lI h1 rfl (fun z2 h2 => zp_lI h2 rfl (fun z3 h3 => zp_lI h3 rfl (fun z4 h4 => zp_lI h4 rfl (fun z5 h5 => zp_lI h5 rfl (fun z6 h6 => zp_lI h6 rfl (fun z7 h7 => zp_lI h7 rfl (fun z8 h8 => zp_lI h8 rfl (fun z9 h9 => zp_l (fun y10 => zp_d (fun a11 => zp_c (pX6_begin  h9) (fun _ z13 h10 => zp_l (fun y16 => zp_d (fun a17 => zp_c (pX4_begin  h10) (fun _ z19 h11 => zp_l (fun y22 => zp_d (fun a23 => zp_c (pX10_begin  h11) (fun _ z25 h12 => zp_s h12))))))))))))))))))
theorem pX3_begin {z0 z : St} {N : Nat} {x0 : Nat} {x1 : Int32} {x2 : Int32} {x3 : Int32} (h : zEq zRfP z0 z) : zPr zRfP z0 (fX3_begin N x0 x1 x2 x3 z) := by
  unfold fX3_begin
  exact zp_lI h rfl (fun z1 h1 => zp_lI h1 rfl (fun z2 h2 => zp_lI h2 rfl (fun z3 h3 => zp_lI h3 rfl (fun z4 h4 => zp_lI h4 rfl (fun z5 h5 => zp_c (pX3_beginAgain  h5) (fun _ z7 h6 => zp_s h6))))))
theorem pX3_startAsking {z0 z : St} {N : Nat} {x0 : Nat} (h : zEq zRfP z0 z) : zPr zRfP z0 (fX3_startAsking N x0 z) := by
  unfold fX3_startAsking
  exact zp_lI h rfl (fun z1 h1 => zp_lI h1 rfl (fun z2 h2 => zp_l (fun y3 => zp_l (fun y4 => zp_d (fun a5 => zp_d (fun a6 => zp_lI h2 rfl (fun z7 h3 => zp_lI h3 rfl (fun z8 h4 => zp_s h4))))))))
theorem pX3_sendsNew_34 {z0 z : St} {N : Nat} (h : zEq zRfP z0 z) : zPr zRfP z0 (fX3_sendsNew_34 N z) := by
  unfold fX3_sendsNew_34
  exact zp_s h
theorem pX3_sendsNew {z0 z : St} {N : Nat} {x0 : Nat} (h : zEq zRfP z0 z) : zPr zRfP z0 (fX3_sendsNew N x0 z) := by
  unfold fX3_sendsNew
  exact zp_i (pX3_sendsNew_34  h) (zp_i (pX3_sendsNew_34  h) (zp_i (zp_s h) (zp_i (zp_s h) (pX3_sendsNew_34  h))))
theorem pX3_takesIn_25 {z0 z : St} {N : Nat} (h : zEq zRfP z0 z) : zPr zRfP z0 (fX3_takesIn_25 N z) := by
  unfold fX3_takesIn_25
  exact zp_s h
theorem pX3_takesIn {z0 z : St} {N : Nat} {x0 : Nat} (h : zEq zRfP z0 z) : zPr zRfP z0 (fX3_takesIn N x0 z) := by
  unfold fX3_takesIn
  exact zp_i (pX3_takesIn_25  h) (zp_i (pX3_takesIn_25  h) (zp_i (zp_s h) (pX3_takesIn_25  h)))
theorem pX3_finish_31 {z0 z : St} {N : Nat} {x0 : Nat} (h : zEq zRfP z0 z) : zPr zRfP z0 (fX3_finish_31 N x0 z) := by
  unfold fX3_finish_31
  exact zp_l (fun y1 => zp_d (fun a2 => zp_lI h rfl (fun z3 h1 => zp_s h1)))
theorem pX3_finish {z0 z : St} {N : Nat} {x0 : Nat} {x1 : Int32} (h : zEq zRfP z0 z) : zPr zRfP z0 (fX3_finish N x0 x1 z) := by
  unfold fX3_finish
  exact zp_lI h rfl (fun z1 h1 => zp_lI h1 rfl (fun z2 h2 => zp_lI h2 rfl (fun z3 h3 => zp_lI h3 rfl (fun z4 h4 => zp_i (pX3_finish_31  h4) (zp_lI h4 rfl (fun z6 h5 => pX3_finish_31  h5))))))
theorem pX3_becomeQuiet {z0 z : St} {N : Nat} {x0 : Nat} {x1 : Int32} (h : zEq zRfP z0 z) : zPr zRfP z0 (fX3_becomeQuiet N x0 x1 z) := by
  unfold fX3_becomeQuiet
  exact zp_c (pX3_finish  h) (fun _ z2 h1 => zp_lI h1 rfl (fun z5 h2 => zp_s h2))
theorem pX3_closeByOwner_24 {z0 z : St} {N : Nat} {x0 : Nat} (h : zEq zRfP z0 z) : zPr zRfP z0 (fX3_closeByOwner_24 N x0 z) := by
  unfold fX3_closeByOwner_24
  exact zp_c (pX3_finish  h) (fun _ z2 h1 => zp_s h1)
theorem pX3_closeByOwner {z0 z : St} {N : Nat} {x0 : Nat} (h : zEq zRfP z0 z) : zPr zRfP z0 (fX3_closeByOwner N x0 z) := by
  unfold fX3_closeByOwner
  exact zp_l (fun y1 => zp_d (fun a2 => zp_lI h rfl (fun z3 h1 => zp_i (pX3_closeByOwner_24  h1) (zp_i (zp_i (zp_i (zp_s h1) (zp_lI h1 rfl (fun z8 h2 => zp_s h2))) (zp_lI h1 rfl (fun z9 h3 => zp_s h3))) (pX3_closeByOwner_24  h1)))))
theorem pX3_abortByOwner_58 {z0 z : St} {N : Nat} {x0 : Nat} (h : zEq zRfP z0 z) : zPr zRfP z0 (fX3_abortByOwner_58 N x0 z) := by
  unfold fX3_abortByOwner_58
  exact zp_c (pX3_finish  h) (fun _ z2 h1 => zp_s h1)
theorem pX3_abortByOwner {z0 z : St} {N : Nat} {x0 : Nat} (h : zEq zRfP z0 z) : zPr zRfP z0 (fX3_abortByOwner N x0 z) := by
  unfold fX3_abortByOwner
  exact zp_i (pX3_abortByOwner_58  h) (zp_i (pX3_abortByOwner_58  h) (zp_i (pX3_abortByOwner_58  h) (zp_lI h rfl (fun z4 h1 => zp_lI h1 rfl (fun z5 h2 => zp_l (fun y6 => zp_d (fun a7 => zp_lI h2 rfl (fun z8 h3 => zp_l (fun y9 => zp_d (fun a10 => zp_lI h3 rfl (fun z11 h4 => pX3_abortByOwner_58  h4)))))))))))
theorem pX4_room {z0 z : St} {N : Nat} {x0 : Nat} (h : zEq zRfP z0 z) : zPr zRfP z0 (fX4_room N x0 z) := by
  unfold fX4_room
  exact zp_s h
theorem pX4_takeByte {z0 z : St} {N : Nat} {x0 : Nat} (h : zEq zRfP z0 z) : zPr zRfP z0 (fX4_takeByte N x0 z) := by
  unfold fX4_takeByte
  exact zp_i (zp_k (zp_l (fun v3 => zp_lI h rfl (fun z4 h1 => zp_lI h1 rfl (fun z5 h2 => zp_s h2))))) (zp_s h)
theorem pX3_takeByte_27 {z0 z : St} {N : Nat} {x0 : Nat} {x1 : Int32} {s0 : Int32} (h : zEq zRfP z0 z) : zPr zRfP z0 (fX3_takeByte_27 N x0 x1 s0 z) := by
  unfold fX3_takeByte_27
  exact zp_l (fun y1 => zp_d (fun a2 => zp_c (pX4_takeByte  h) (fun r3 z4 h1 => zp_i (zp_s h1) (zp_l (fun y8 => zp_d (fun a9 => zp_c (pX4_room  h1) (fun r10 z11 h2 => zp_i (zp_s h2) (zp_c (pX3_takesIn  h2) (fun r15 z16 h3 => zp_i (zp_s h3) (zp_lI h3 rfl (fun z20 h4 => zp_s h4)))))))))))
theorem pX3_takeByte {z0 z : St} {N : Nat} {x0 : Nat} (h : zEq zRfP z0 z) : zPr zRfP z0 (fX3_takeByte N x0 z) := by
  unfold fX3_takeByte
  exact zp_l (fun v1 => zp_l (fun y2 => zp_d (fun a3 => zp_c (pX4_room  h) (fun r4 z5 h1 => zp_i (pX3_takeByte_27  h1) (pX3_takeByte_27  h1)))))
theorem pX6_hasUnthanked {z0 z : St} {N : Nat} {x0 : Nat} (h : zEq zRfP z0 z) : zPr zRfP z0 (fX6_hasUnthanked N x0 z) := by
  unfold fX6_hasUnthanked
  exact zp_i (zp_s h) (zp_s h)
theorem pX3_ring_123 {z0 z : St} {N : Nat} {x0 : Nat} {x1 : Int32} (h : zEq zRfP z0 z) : zPr zRfP z0 (fX3_ring_123 N x0 x1 z) := by
  unfold fX3_ring_123
  exact zp_l (fun y1 => zp_l (fun y2 => zp_d (fun a3 => zp_d (fun a4 => zp_lI h rfl (fun z5 h1 => zp_l (fun y6 => zp_l (fun y7 => zp_d (fun a8 => zp_d (fun a9 => zp_lI h1 rfl (fun z10 h2 => zp_s h2))))))))))
theorem pX3_ring_110 {z0 z : St} {N : Nat} {x0 : Nat} {x1 : Int32} (h : zEq zRfP z0 z) : zPr zRfP z0 (fX3_ring_110 N x0 x1 z) := by
  unfold fX3_ring_110
  exact zp_lI h rfl (fun z1 h1 => pX3_ring_123  h1)
theorem pX3_ring_22 {z0 z : St} {N : Nat} {x0 : Nat} {x1 : Int32} (h : zEq zRfP z0 z) : zPr zRfP z0 (fX3_ring_22 N x0 x1 z) := by
  unfold fX3_ring_22
  exact zp_l (fun y1 => zp_d (fun a2 => zp_i (zp_s h) (zp_l (fun y4 => zp_d (fun a5 => zp_i (zp_l (fun y7 => zp_d (fun a8 => zp_lI h rfl (fun z9 h1 => zp_l (fun y10 => zp_d (fun a11 => zp_i (zp_l (fun y13 => zp_d (fun a14 => zp_c (pX6_hasUnthanked  h1) (fun r15 z16 h2 => zp_i (zp_i (pX3_ring_110  h2) (zp_i (zp_lI h2 rfl (fun z22 h3 => pX3_ring_123  h3)) (pX3_ring_110  h2))) (zp_lI h2 rfl (fun z23 h4 => pX3_ring_123  h4)))))) (zp_c (pX3_finish  h1) (fun _ z25 h5 => zp_s h5)))))))) (zp_s h))))))
theorem pX3_ring {z0 z : St} {N : Nat} {x0 : Nat} {x1 : Int32} (h : zEq zRfP z0 z) : zPr zRfP z0 (fX3_ring N x0 x1 z) := by
  unfold fX3_ring
  exact zp_i (pX3_ring_22  h) (zp_i (pX3_ring_22  h) (zp_c (pX3_finish  h) (fun _ z4 h1 => pX3_ring_22  h1)))
theorem pX6_hasNew_25 {z0 z : St} {N : Nat} (h : zEq zRfP z0 z) : zPr zRfP z0 (fX6_hasNew_25 N z) := by
  unfold fX6_hasNew_25
  exact zp_s h
theorem pX6_hasNew {z0 z : St} {N : Nat} {x0 : Nat} (h : zEq zRfP z0 z) : zPr zRfP z0 (fX6_hasNew N x0 z) := by
  unfold fX6_hasNew
  exact zp_i (pX6_hasNew_25  h) (zp_i (zp_s h) (zp_i (zp_s h) (pX6_hasNew_25  h)))
theorem pX3_armProbe {z0 z : St} {N : Nat} {x0 : Nat} {x1 : Int32} (h : zEq zRfP z0 z) : zPr zRfP z0 (fX3_armProbe N x0 x1 z) := by
  unfold fX3_armProbe
  exact zp_l (fun y1 => zp_d (fun a2 => zp_i (zp_s h) (zp_c (pX3_sendsNew  h) (fun r4 z5 h1 => zp_i (zp_s h1) (zp_l (fun y9 => zp_d (fun a10 => zp_c (pX6_hasUnthanked  h1) (fun r11 z12 h2 => zp_i (zp_l (fun y16 => zp_d (fun a17 => zp_i (zp_s h2) (zp_l (fun y19 => zp_d (fun a20 => zp_c (pX6_hasNew  h2) (fun r21 z22 h3 => zp_i (zp_s h3) (zp_l (fun y26 => zp_l (fun y27 => zp_d (fun a28 => zp_d (fun a29 => zp_lI h3 rfl (fun z30 h4 => zp_s h4))))))))))))) (zp_s h2)))))))))
theorem pX7_has {z0 z : St} {N : Nat} {x0 : Nat} {x1 : Int32} (h : zEq zRfP z0 z) : zPr zRfP z0 (fX7_has N x0 x1 z) := by
  unfold fX7_has
  exact zp_i (zp_s h) (zp_s h)
theorem pX7_resetFlags {z0 z : St} {N : Nat} {x0 : Nat} (h : zEq zRfP z0 z) : zPr zRfP z0 (fX7_resetFlags N x0 z) := by
  unfold fX7_resetFlags
  exact zp_c (pX7_has  h) (fun r1 z2 h1 => zp_i (zp_s h1) (zp_s h1))
theorem pX7_resetNumber {z0 z : St} {N : Nat} {x0 : Nat} (h : zEq zRfP z0 z) : zPr zRfP z0 (fX7_resetNumber N x0 z) := by
  unfold fX7_resetNumber
  exact zp_c (pX7_has  h) (fun r1 z2 h1 => zp_i (zp_s h1) (zp_s h1))
theorem pX7_size_33 {z0 z : St} {N : Nat} {x0 : Nat} {x1 : Int32} (h : zEq zRfP z0 z) : zPr zRfP z0 (fX7_size_33 N x0 x1 z) := by
  unfold fX7_size_33
  exact zp_i (zp_s h) (zp_s h)
theorem pX7_size_20 {z0 z : St} {N : Nat} {x0 : Nat} {s0 : Int32} (h : zEq zRfP z0 z) : zPr zRfP z0 (fX7_size_20 N x0 s0 z) := by
  unfold fX7_size_20
  exact zp_i (pX7_size_33  h) (zp_l (fun v2 => pX7_size_33  h))
theorem pX7_size {z0 z : St} {N : Nat} {x0 : Nat} (h : zEq zRfP z0 z) : zPr zRfP z0 (fX7_size N x0 z) := by
  unfold fX7_size
  exact zp_i (pX7_size_20  h) (pX7_size_20  h)
theorem pX7_resetThanked {z0 z : St} {N : Nat} {x0 : Nat} (h : zEq zRfP z0 z) : zPr zRfP z0 (fX7_resetThanked N x0 z) := by
  unfold fX7_resetThanked
  exact zp_c (pX7_has  h) (fun r1 z2 h1 => zp_i (zp_c (pX7_size  h1) (fun r6 z7 h2 => zp_s h2)) (zp_s h1))
theorem pX3_resets {z0 z : St} {N : Nat} {x0 : Nat} {x1 : Nat} (h : zEq zRfP z0 z) : zPr zRfP z0 (fX3_resets N x0 x1 z) := by
  unfold fX3_resets
  exact zp_c (pX7_has  h) (fun r1 z2 h1 => zp_i (zp_lI h1 rfl (fun z6 h2 => zp_c (pX7_resetFlags  h2) (fun r7 z8 h3 => zp_lI h3 rfl (fun z11 h4 => zp_c (pX7_resetNumber  h4) (fun r12 z13 h5 => zp_lI h5 rfl (fun z16 h6 => zp_c (pX7_resetThanked  h6) (fun r17 z18 h7 => zp_lI h7 rfl (fun z21 h8 => zp_s h8)))))))) (zp_s h1))
theorem pX6_tellWindow {z0 z : St} {N : Nat} {x0 : Nat} {x1 : Nat} {x2 : Int32} (h : zEq zRfP z0 z) : zPr zRfP z0 (fX6_tellWindow N x0 x1 x2 z) := by
  unfold fX6_tellWindow
  exact zp_lI h rfl (fun z1 h1 => zp_lI h1 rfl (fun z2 h2 => zp_lI h2 rfl (fun z3 h3 => zp_s h3)))
theorem pX3_takeOpen_68 {z0 z : St} {N : Nat} {x0 : Nat} {x1 : Nat} {s0 : Option Nat} {s1 : Nat} {s2 : Int32} (h : zEq zRfP z0 z) : zPr zRfP z0 (fX3_takeOpen_68 N x0 x1 s0 s1 s2 z) := by
  unfold fX3_takeOpen_68
  exact zp_d (fun a1 => zp_c (pX6_tellWindow  h) (fun _ z3 h1 => zp_lI h1 rfl (fun z6 h2 => zp_s h2)))
theorem pX3_takeOpen_34 {z0 z : St} {N : Nat} {x0 : Nat} {x1 : Nat} {s0 : Nat} {s1 : Int32} {s2 : Int32} (h : zEq zRfP z0 z) : zPr zRfP z0 (fX3_takeOpen_34 N x0 x1 s0 s1 s2 z) := by
  unfold fX3_takeOpen_34
  exact zp_lI h rfl (fun z1 h1 => zp_l (fun y2 => zp_c (pX7_has  h1) (fun r3 z4 h2 => zp_i (zp_l (fun y8 => zp_d (fun a9 => pX3_takeOpen_68  h2))) (pX3_takeOpen_68  h2))))
theorem pX3_takeOpen {z0 z : St} {N : Nat} {x0 : Nat} {x1 : Nat} (h : zEq zRfP z0 z) : zPr zRfP z0 (fX3_takeOpen N x0 x1 z) := by
  unfold fX3_takeOpen
  exact zp_l (fun v1 => zp_l (fun y2 => zp_d (fun a3 => zp_lI h rfl (fun z4 h1 => zp_i (pX3_takeOpen_34  h1) (pX3_takeOpen_34  h1)))))
theorem pX3_takeListening {z0 z : St} {N : Nat} {x0 : Nat} {x1 : Nat} (h : zEq zRfP z0 z) : zPr zRfP z0 (fX3_takeListening N x0 x1 z) := by
  unfold fX3_takeListening
  exact zp_c (pX7_has  h) (fun r1 z2 h1 => zp_i (zp_c (pX7_has  h1) (fun r6 z7 h2 => zp_i (zp_c (pX7_has  h2) (fun r11 z12 h3 => zp_i (zp_c (pX3_takeOpen  h3) (fun _ z17 h4 => zp_lI h4 rfl (fun z20 h5 => zp_l (fun y21 => zp_l (fun y22 => zp_d (fun a23 => zp_d (fun a24 => zp_lI h5 rfl (fun z25 h6 => zp_lI h6 rfl (fun z26 h7 => zp_s h7))))))))) (zp_s h3))) (zp_c (pX3_resets  h2) (fun _ z28 h8 => zp_s h8)))) (zp_s h1))
theorem pX11_isBefore {z0 z : St} {N : Nat} {x0 : Int32} {x1 : Int32} (h : zEq zRfP z0 z) : zPr zRfP z0 (fX11_isBefore N x0 x1 z) := by
  unfold fX11_isBefore
  exact zp_i (zp_s h) (zp_s h)
theorem pX10_thanked_109 {z0 z : St} {N : Nat} {x0 : Nat} (h : zEq zRfP z0 z) : zPr zRfP z0 (fX10_thanked_109 N x0 z) := by
  unfold fX10_thanked_109
  exact zp_lI h rfl (fun z1 h1 => zp_s h1)
theorem pX10_thanked {z0 z : St} {N : Nat} {x0 : Nat} {x1 : Int32} {x2 : Int32} (h : zEq zRfP z0 z) : zPr zRfP z0 (fX10_thanked N x0 x1 x2 z) := by
  unfold fX10_thanked
  exact zp_lI h rfl (fun z1 h1 => zp_i (zp_s h1) (zp_c (pX11_isBefore  h1) (fun r3 z4 h2 => zp_i (zp_lI h2 rfl (fun z8 h3 => zp_l (fun v9 => zp_i (zp_lI h3 rfl (fun z11 h4 => zp_lI h4 rfl (fun z12 h5 => zp_lI h5 rfl (fun z13 h6 => pX10_thanked_109  h6)))) (zp_l (fun v14 => zp_lI h3 rfl (fun z15 h7 => zp_lI h7 rfl (fun z16 h8 => pX10_thanked_109  h8))))))) (zp_s h2))))
theorem pX6_thankTo_27 {z0 z : St} {N : Nat} {x0 : Nat} {x2 : Int32} (h : zEq zRfP z0 z) : zPr zRfP z0 (fX6_thankTo_27 N x0 x2 z) := by
  unfold fX6_thankTo_27
  exact zp_l (fun v1 => zp_lI h rfl (fun z2 h1 => zp_lI h1 rfl (fun z3 h2 => zp_lI h2 rfl (fun z4 h3 => zp_i (zp_s h3) (zp_i (zp_s h3) (zp_lI h3 rfl (fun z7 h4 => zp_s h4)))))))
theorem pX6_thankTo {z0 z : St} {N : Nat} {x0 : Nat} {x1 : Int32} (h : zEq zRfP z0 z) : zPr zRfP z0 (fX6_thankTo N x0 x1 z) := by
  unfold fX6_thankTo
  exact zp_l (fun v1 => zp_lI h rfl (fun z2 h1 => zp_i (pX6_thankTo_27  h1) (zp_lI h1 rfl (fun z4 h2 => zp_l (fun v5 => pX6_thankTo_27  h2)))))
theorem pX3_thankedTo_44 {z0 z : St} {N : Nat} {x0 : Nat} {s0 : Option Nat} {s1 : Int32} (h : zEq zRfP z0 z) : zPr zRfP z0 (fX3_thankedTo_44 N x0 s0 s1 z) := by
  unfold fX3_thankedTo_44
  exact zp_d (fun a1 => zp_lI h rfl (fun z2 h1 => zp_lI h1 rfl (fun z3 h2 => zp_s h2)))
theorem pX3_thankedTo {z0 z : St} {N : Nat} {x0 : Nat} {x1 : Int32} {x2 : Int32} (h : zEq zRfP z0 z) : zPr zRfP z0 (fX3_thankedTo N x0 x1 x2 z) := by
  unfold fX3_thankedTo
  exact zp_l (fun y1 => zp_d (fun a2 => zp_c (pX6_thankTo  h) (fun _ z4 h1 => zp_l (fun y7 => zp_d (fun a8 => zp_c (pX10_thanked  h1) (fun _ z10 h2 => zp_l (fun y13 => zp_l (fun y14 => zp_d (fun a15 => zp_c (pX6_hasUnthanked  h2) (fun r16 z17 h3 => zp_i (pX3_thankedTo_44  h3) (zp_l (fun y21 => zp_d (fun a22 => pX3_thankedTo_44  h3)))))))))))))
theorem pX3_takeAsking_31 {z0 z : St} {N : Nat} {x0 : Nat} {x1 : Nat} {x2 : Int32} {x3 : Int32} (h : zEq zRfP z0 z) : zPr zRfP z0 (fX3_takeAsking_31 N x0 x1 x2 x3 z) := by
  unfold fX3_takeAsking_31
  exact zp_c (pX7_has  h) (fun r1 z2 h1 => zp_i (zp_c (pX7_has  h1) (fun r6 z7 h2 => zp_i (zp_c (pX3_takeOpen  h2) (fun _ z12 h3 => zp_i (zp_lI h3 rfl (fun z16 h4 => zp_lI h4 rfl (fun z17 h5 => zp_s h5))) (zp_lI h3 rfl (fun z18 h6 => zp_lI h6 rfl (fun z19 h7 => zp_c (pX3_thankedTo  h7) (fun _ z21 h8 => zp_lI h8 rfl (fun z24 h9 => zp_s h9))))))) (zp_s h2))) (zp_i (zp_s h1) (zp_c (pX3_finish  h1) (fun _ z27 h10 => zp_s h10))))
theorem pX3_takeAsking {z0 z : St} {N : Nat} {x0 : Nat} {x1 : Nat} {x2 : Int32} (h : zEq zRfP z0 z) : zPr zRfP z0 (fX3_takeAsking N x0 x1 x2 z) := by
  unfold fX3_takeAsking
  exact zp_c (pX7_has  h) (fun r1 z2 h1 => zp_i (pX3_takeAsking_31  h1) (zp_l (fun y6 => zp_d (fun a7 => zp_i (pX3_takeAsking_31  h1) (zp_c (pX3_resets  h1) (fun _ z10 h2 => zp_s h2))))))
theorem pX3_takeReset_54 {z0 z : St} {N : Nat} {s0 : Nat} {s1 : Int32} (h : zEq zRfP z0 z) : zPr zRfP z0 (fX3_takeReset_54 N s0 s1 z) := by
  unfold fX3_takeReset_54
  exact zp_c (pX3_finish  h) (fun _ z2 h1 => zp_s h1)
theorem pX3_takeReset_52 {z0 z : St} {N : Nat} {s0 : Nat} (h : zEq zRfP z0 z) : zPr zRfP z0 (fX3_takeReset_52 N s0 z) := by
  unfold fX3_takeReset_52
  exact pX3_takeReset_54  h
theorem pX3_takeReset_29 {z0 z : St} {N : Nat} {x0 : Nat} (h : zEq zRfP z0 z) : zPr zRfP z0 (fX3_takeReset_29 N x0 z) := by
  unfold fX3_takeReset_29
  exact zp_i (pX3_takeReset_52  h) (zp_i (pX3_takeReset_52  h) (pX3_takeReset_54  h))
theorem pX3_takeReset {z0 z : St} {N : Nat} {x0 : Nat} (h : zEq zRfP z0 z) : zPr zRfP z0 (fX3_takeReset N x0 z) := by
  unfold fX3_takeReset
  exact zp_i (pX3_takeReset_29  h) (zp_i (pX3_takeReset_29  h) (zp_l (fun y3 => zp_d (fun a4 => zp_c (pX3_beginAgain  h) (fun _ z6 h1 => zp_s h1)))))
theorem pX4_fits_27 {z0 z : St} {N : Nat} (h : zEq zRfP z0 z) : zPr zRfP z0 (fX4_fits_27 N z) := by
  unfold fX4_fits_27
  exact zp_s h
theorem pX4_fits {z0 z : St} {N : Nat} {x0 : Nat} {x1 : Int32} {x2 : Int32} (h : zEq zRfP z0 z) : zPr zRfP z0 (fX4_fits N x0 x1 x2 z) := by
  unfold fX4_fits
  exact zp_l (fun v1 => zp_i (zp_i (zp_c (pX4_room  h) (fun r4 z5 h1 => zp_i (zp_s h1) (zp_i (zp_s h1) (zp_s h1)))) (zp_c (pX4_room  h) (fun r10 z11 h2 => zp_i (zp_s h2) (zp_s h2)))) (zp_i (pX4_fits_27  h) (zp_i (zp_s h) (zp_c (pX4_room  h) (fun r17 z18 h3 => zp_i (zp_s h3) (pX4_fits_27  h3))))))
theorem pX3_goesOn_31 {z0 z : St} {N : Nat} {x0 : Nat} {x1 : Nat} {x2 : Int32} (h : zEq zRfP z0 z) : zPr zRfP z0 (fX3_goesOn_31 N x0 x1 x2 z) := by
  unfold fX3_goesOn_31
  exact zp_i (zp_s h) (zp_c (pX7_has  h) (fun r2 z3 h1 => zp_i (zp_s h1) (zp_lI h1 rfl (fun z7 h2 => zp_s h2))))
theorem pX3_goesOn_166 {z0 z : St} {N : Nat} {x0 : Nat} {s0 : Nat} {s1 : Int32} (h : zEq zRfP z0 z) : zPr zRfP z0 (fX3_goesOn_166 N x0 s0 s1 z) := by
  unfold fX3_goesOn_166
  exact zp_lI h rfl (fun z1 h1 => zp_lI h1 rfl (fun z2 h2 => zp_s h2))
theorem pX3_goesOn {z0 z : St} {N : Nat} {x0 : Nat} {x1 : Nat} {x2 : Int32} (h : zEq zRfP z0 z) : zPr zRfP z0 (fX3_goesOn N x0 x1 x2 z) := by
  unfold fX3_goesOn
  exact zp_l (fun y1 => zp_c (pX7_size  h) (fun r2 z3 h1 => zp_d (fun a6 => zp_c (pX4_fits  h1) (fun r7 z8 h2 => zp_i (zp_c (pX7_has  h2) (fun r12 z13 h3 => zp_i (zp_c (pX7_has  h3) (fun r17 z18 h4 => zp_i (zp_c (pX7_has  h4) (fun r22 z23 h5 => zp_i (zp_i (zp_l (fun y28 => zp_d (fun a29 => zp_c (pX11_isBefore  h5) (fun r30 z31 h6 => zp_i (zp_s h6) (zp_lI h6 rfl (fun z35 h7 => zp_s h7)))))) (zp_l (fun y36 => zp_d (fun a37 => zp_i (zp_l (fun y39 => zp_d (fun a40 => zp_i (pX3_goesOn_166  h5) (pX3_goesOn_166  h5)))) (zp_c (pX3_resets  h5) (fun _ z43 h8 => zp_s h8)))))) (zp_s h5))) (zp_lI h4 rfl (fun z46 h9 => zp_s h9)))) (zp_l (fun y47 => zp_d (fun a48 => zp_i (zp_lI h3 rfl (fun z50 h10 => zp_s h10)) (zp_c (pX3_takeReset  h3) (fun _ z52 h11 => zp_s h11))))))) (zp_c (pX7_has  h2) (fun r55 z56 h12 => zp_i (pX3_goesOn_31  h12) (zp_lI h12 rfl (fun z60 h13 => pX3_goesOn_31  h13))))))))
theorem pX3_peerLeft {z0 z : St} {N : Nat} {x0 : Nat} {x1 : Int32} (h : zEq zRfP z0 z) : zPr zRfP z0 (fX3_peerLeft N x0 x1 z) := by
  unfold fX3_peerLeft
  exact zp_i (zp_i (zp_c (pX3_becomeQuiet  h) (fun _ z4 h1 => zp_s h1)) (zp_lI h rfl (fun z7 h2 => zp_s h2))) (zp_lI h rfl (fun z8 h3 => zp_s h3))
theorem pX3_takeWindow_121 {z0 z : St} {N : Nat} {x0 : Nat} {x5 : Int32} (h : zEq zRfP z0 z) : zPr zRfP z0 (fX3_takeWindow_121 N x0 x5 z) := by
  unfold fX3_takeWindow_121
  exact zp_l (fun y1 => zp_d (fun a2 => zp_i (zp_s h) (zp_i (zp_s h) (zp_lI h rfl (fun z5 h1 => zp_l (fun y6 => zp_d (fun a7 => zp_c (pX6_hasUnthanked  h1) (fun r8 z9 h2 => zp_i (zp_s h2) (zp_l (fun y13 => zp_d (fun a14 => zp_lI h2 rfl (fun z15 h3 => zp_s h3))))))))))))
theorem pX3_takeWindow_113 {z0 z : St} {N : Nat} {x0 : Nat} {x5 : Int32} (h : zEq zRfP z0 z) : zPr zRfP z0 (fX3_takeWindow_113 N x0 x5 z) := by
  unfold fX3_takeWindow_113
  exact zp_l (fun y1 => zp_d (fun a2 => zp_lI h rfl (fun z3 h1 => pX3_takeWindow_121  h1)))
theorem pX3_takeWindow_87 {z0 z : St} {N : Nat} {x0 : Nat} {x1 : Nat} {x2 : Int32} {s0 : Int32} (h : zEq zRfP z0 z) : zPr zRfP z0 (fX3_takeWindow_87 N x0 x1 x2 s0 z) := by
  unfold fX3_takeWindow_87
  exact zp_l (fun y1 => zp_d (fun a2 => zp_c (pX6_tellWindow  h) (fun _ z4 h1 => zp_l (fun y7 => zp_d (fun a8 => zp_i (pX3_takeWindow_113  h1) (zp_i (pX3_takeWindow_121  h1) (pX3_takeWindow_113  h1)))))))
theorem pX3_takeWindow_64 {z0 z : St} {N : Nat} {x0 : Nat} {x1 : Nat} {x2 : Int32} {s0 : Int32} (h : zEq zRfP z0 z) : zPr zRfP z0 (fX3_takeWindow_64 N x0 x1 x2 s0 z) := by
  unfold fX3_takeWindow_64
  exact zp_i (zp_l (fun y2 => zp_d (fun a3 => zp_i (pX3_takeWindow_87  h) (pX3_takeWindow_87  h)))) (zp_s h)
theorem pX3_takeWindow_59 {z0 z : St} {N : Nat} {x0 : Nat} {x1 : Nat} {x2 : Int32} (h : zEq zRfP z0 z) : zPr zRfP z0 (fX3_takeWindow_59 N x0 x1 x2 z) := by
  unfold fX3_takeWindow_59
  exact pX3_takeWindow_64  h
theorem pX3_takeWindow_63 {z0 z : St} {N : Nat} {x0 : Nat} {x1 : Nat} {x2 : Int32} (h : zEq zRfP z0 z) : zPr zRfP z0 (fX3_takeWindow_63 N x0 x1 x2 z) := by
  unfold fX3_takeWindow_63
  exact pX3_takeWindow_64  h
theorem pX3_takeWindow {z0 z : St} {N : Nat} {x0 : Nat} {x1 : Nat} {x2 : Int32} (h : zEq zRfP z0 z) : zPr zRfP z0 (fX3_takeWindow N x0 x1 x2 z) := by
  unfold fX3_takeWindow
  exact zp_l (fun v1 => zp_l (fun y2 => zp_d (fun a3 => zp_c (pX11_isBefore  h) (fun r4 z5 h1 => zp_i (zp_l (fun y9 => zp_d (fun a10 => zp_c (pX11_isBefore  h1) (fun r11 z12 h2 => zp_i (pX3_takeWindow_59  h2) (zp_l (fun y16 => zp_d (fun a17 => zp_i (pX3_takeWindow_63  h2) (zp_l (fun y19 => zp_d (fun a20 => zp_c (pX11_isBefore  h2) (fun r21 z22 h3 => zp_i (pX3_takeWindow_63  h3) (pX3_takeWindow_59  h3)))))))))))) (zp_s h1)))))
theorem pX4_goOn_43 {z0 z : St} {N : Nat} {K2 : Nat → Int32 → St → Option (Int32 × St)} {x0 : Nat} {x1 : Int32} (hK2 : ∀ a0 a1 a2, zEq zRfP z0 a2 → zPr zRfP z0 (K2 a0 a1 a2)) (h : zEq zRfP z0 z) : zPr zRfP z0 (fX4_goOn_43 N K2 x0 x1 z) := by
  unfold fX4_goOn_43
  exact zp_l (fun v1 => zp_i (zp_s h) (zp_k (zp_i (zp_k (zp_lA h rfl (fun z6 h1 => zp_lI h1 rfl (fun z7 h2 => zp_lI h2 rfl (fun z8 h3 => zp_l (fun v9 => hK2 _ _ _ h3)))))) (zp_s h))))
theorem pX4_goOn_2b {z0 z : St} {N : Nat} {K2 : Nat → Int32 → St → Option (Int32 × St)} {x0 : Nat} {x1 : Int32} (hK2 : ∀ a0 a1 a2, zEq zRfP z0 a2 → zPr zRfP z0 (K2 a0 a1 a2)) (h : zEq zRfP z0 z) : zPr zRfP z0 (fX4_goOn_2b N K2 x0 x1 z) := by
  unfold fX4_goOn_2b
  exact zp_i (zp_s h) (zp_i (pX4_goOn_43 hK2 h) (zp_i (pX4_goOn_43 hK2 h) (zp_lI h rfl (fun z4 h1 => zp_lI h1 rfl (fun z5 h2 => zp_s h2)))))
theorem pX4_goOn_2 {z0 : St} {N : Nat} : ∀ (n : Nat) (y0 : Nat) (y1 : Int32) (z : St), zEq zRfP z0 z → zPr zRfP z0 (fX4_goOn_2 N n y0 y1 z) := by
  intro n
  induction n with
  | zero => intro y0 y1 z h; exact zp_n
  | succ n ih => intro y0 y1 z h; exact pX4_goOn_2b  (fun _ _ _ h => ih _ _ _ h) h
theorem pX4_goOn {z0 z : St} {N : Nat} {x0 : Nat} (h : zEq zRfP z0 z) : zPr zRfP z0 (fX4_goOn N x0 z) := by
  unfold fX4_goOn
  exact pX4_goOn_2  _ _ _ _ h
theorem pX7_bytes {z0 z : St} {N : Nat} {x0 : Nat} (h : zEq zRfP z0 z) : zPr zRfP z0 (fX7_bytes N x0 z) := by
  unfold fX7_bytes
  exact zp_s h
theorem pX4_take_109 {z0 z : St} {N : Nat} {K24 : Nat → Nat → Int32 → Int32 → Int32 → Int32 → St → Option (Int32 × St)} {x0 : Nat} {x1 : Nat} {x2 : Int32} {x3 : Int32} {x4 : Int32} {x5 : Int32} (hK24 : ∀ a0 a1 a2 a3 a4 a5 a6, zEq zRfP z0 a6 → zPr zRfP z0 (K24 a0 a1 a2 a3 a4 a5 a6)) (h : zEq zRfP z0 z) : zPr zRfP z0 (fX4_take_109 N K24 x0 x1 x2 x3 x4 x5 z) := by
  unfold fX4_take_109
  exact zp_l (fun v1 => hK24 _ _ _ _ _ _ _ h)
theorem pX4_take_160 {z0 z : St} {N : Nat} {x0 : Nat} (h : zEq zRfP z0 z) : zPr zRfP z0 (fX4_take_160 N x0 z) := by
  unfold fX4_take_160
  exact zp_c (pX4_goOn  h) (fun _ z2 h1 => zp_s h1)
theorem pX4_take_24b {z0 z : St} {N : Nat} {K24 : Nat → Nat → Int32 → Int32 → Int32 → Int32 → St → Option (Int32 × St)} {x0 : Nat} {x1 : Nat} {x2 : Int32} {x3 : Int32} {x4 : Int32} {x5 : Int32} (hK24 : ∀ a0 a1 a2 a3 a4 a5 a6, zEq zRfP z0 a6 → zPr zRfP z0 (K24 a0 a1 a2 a3 a4 a5 a6)) (h : zEq zRfP z0 z) : zPr zRfP z0 (fX4_take_24b N K24 x0 x1 x2 x3 x4 x5 z) := by
  unfold fX4_take_24b
  exact zp_i (zp_c (pX7_has  h) (fun r2 z3 h1 => zp_i (pX4_take_160  h1) (zp_i (pX4_take_160  h1) (zp_i (pX4_take_160  h1) (zp_i (pX4_take_160  h1) (zp_lI h1 rfl (fun z10 h2 => zp_lI h2 rfl (fun z11 h3 => pX4_take_160  h3)))))))) (zp_i (pX4_take_109 hK24 h) (zp_i (zp_l (fun v14 => zp_k (zp_i (zp_k (zp_lA h rfl (fun z18 h4 => zp_k (zp_k (zp_lA h4 rfl (fun z21 h5 => pX4_take_109 hK24 h5)))))) (pX4_take_109 hK24 h)))) (pX4_take_109 hK24 h)))
theorem pX4_take_24 {z0 : St} {N : Nat} : ∀ (n : Nat) (y0 : Nat) (y1 : Nat) (y2 : Int32) (y3 : Int32) (y4 : Int32) (y5 : Int32) (z : St), zEq zRfP z0 z → zPr zRfP z0 (fX4_take_24 N n y0 y1 y2 y3 y4 y5 z) := by
  intro n
  induction n with
  | zero => intro y0 y1 y2 y3 y4 y5 z h; exact zp_n
  | succ n ih => intro y0 y1 y2 y3 y4 y5 z h; exact pX4_take_24b  (fun _ _ _ _ _ _ _ h => ih _ _ _ _ _ _ _ h) h
theorem pX4_take {z0 z : St} {N : Nat} {x0 : Nat} {x1 : Nat} (h : zEq zRfP z0 z) : zPr zRfP z0 (fX4_take N x0 x1 z) := by
  unfold fX4_take
  exact zp_c (pX4_room  h) (fun r1 z2 h1 => zp_c (pX7_bytes  h1) (fun r5 z6 h2 => zp_l (fun v9 => pX4_take_24  _ _ _ _ _ _ _ _ h2)))
theorem pX3_takeRest_135 {z0 z : St} {N : Nat} {x0 : Nat} (h : zEq zRfP z0 z) : zPr zRfP z0 (fX3_takeRest_135 N x0 z) := by
  unfold fX3_takeRest_135
  exact zp_lI h rfl (fun z1 h1 => zp_s h1)
theorem pX3_takeRest_120 {z0 z : St} {N : Nat} {x0 : Nat} {x1 : Nat} (h : zEq zRfP z0 z) : zPr zRfP z0 (fX3_takeRest_120 N x0 x1 z) := by
  unfold fX3_takeRest_120
  exact zp_c (pX7_bytes  h) (fun r1 z2 h1 => zp_i (pX3_takeRest_135  h1) (zp_c (pX7_has  h1) (fun r6 z7 h2 => zp_i (zp_s h2) (pX3_takeRest_135  h2))))
theorem pX3_takeRest_90 {z0 z : St} {N : Nat} {x0 : Nat} {x1 : Nat} {x2 : Int32} (h : zEq zRfP z0 z) : zPr zRfP z0 (fX3_takeRest_90 N x0 x1 x2 z) := by
  unfold fX3_takeRest_90
  exact zp_c (pX3_takesIn  h) (fun r1 z2 h1 => zp_i (pX3_takeRest_120  h1) (zp_l (fun y6 => zp_d (fun a7 => zp_c (pX4_take  h1) (fun _ z9 h2 => zp_l (fun y12 => zp_d (fun a13 => zp_i (pX3_takeRest_120  h2) (zp_c (pX3_peerLeft  h2) (fun _ z16 h3 => pX3_takeRest_120  h3)))))))))
theorem pX3_takeRest_25 {z0 z : St} {N : Nat} {x0 : Nat} {x1 : Nat} {x2 : Int32} {x3 : Int32} (h : zEq zRfP z0 z) : zPr zRfP z0 (fX3_takeRest_25 N x0 x1 x2 x3 z) := by
  unfold fX3_takeRest_25
  exact zp_c (pX3_takeWindow  h) (fun _ z2 h1 => zp_l (fun y5 => zp_d (fun a6 => zp_i (pX3_takeRest_90  h1) (zp_i (zp_i (zp_i (pX3_takeRest_90  h1) (zp_c (pX3_finish  h1) (fun _ z12 h2 => zp_s h2))) (zp_c (pX3_becomeQuiet  h1) (fun _ z16 h3 => pX3_takeRest_90  h3))) (zp_lI h1 rfl (fun z19 h4 => pX3_takeRest_90  h4))))))
theorem pX3_takeRest {z0 z : St} {N : Nat} {x0 : Nat} {x1 : Nat} {x2 : Int32} (h : zEq zRfP z0 z) : zPr zRfP z0 (fX3_takeRest N x0 x1 x2 z) := by
  unfold fX3_takeRest
  exact zp_l (fun v1 => zp_l (fun y2 => zp_d (fun a3 => zp_c (pX11_isBefore  h) (fun r4 z5 h1 => zp_i (pX3_takeRest_25  h1) (zp_c (pX3_thankedTo  h1) (fun _ z10 h2 => pX3_takeRest_25  h2))))))
theorem pX7_setLength {z0 z : St} {N : Nat} {x0 : Nat} {x1 : Int32} (h : zEq zRfP z0 z) : zPr zRfP z0 (fX7_setLength N x0 x1 z) := by
  unfold fX7_setLength
  exact zp_lI h rfl (fun z1 h1 => zp_lI h1 rfl (fun z2 h2 => zp_s h2))
theorem pX6_putBytes_16b {z0 z : St} {N : Nat} {K16 : Nat → Nat → Int32 → Int32 → Int32 → St → Option (Int32 × St)} {x0 : Nat} {x1 : Nat} {x2 : Int32} {x4 : Int32} {x5 : Int32} (hK16 : ∀ a0 a1 a2 a3 a4 a5, zEq zRfP z0 a5 → zPr zRfP z0 (K16 a0 a1 a2 a3 a4 a5)) (h : zEq zRfP z0 z) : zPr zRfP z0 (fX6_putBytes_16b N K16 x0 x1 x2 x4 x5 z) := by
  unfold fX6_putBytes_16b
  exact zp_i (zp_c (pX7_setLength  h) (fun _ z3 h1 => zp_s h1)) (zp_k (zp_k (zp_lA h rfl (fun z8 h2 => zp_l (fun v9 => hK16 _ _ _ _ _ _ h2)))))
theorem pX6_putBytes_16 {z0 : St} {N : Nat} : ∀ (n : Nat) (y0 : Nat) (y1 : Nat) (y2 : Int32) (y3 : Int32) (y4 : Int32) (z : St), zEq zRfP z0 z → zPr zRfP z0 (fX6_putBytes_16 N n y0 y1 y2 y3 y4 z) := by
  intro n
  induction n with
  | zero => intro y0 y1 y2 y3 y4 z h; exact zp_n
  | succ n ih => intro y0 y1 y2 y3 y4 z h; exact pX6_putBytes_16b  (fun _ _ _ _ _ _ h => ih _ _ _ _ _ _ h) h
theorem pX6_putBytes {z0 z : St} {N : Nat} {x0 : Nat} {x1 : Nat} {x2 : Int32} {x3 : Int32} (h : zEq zRfP z0 z) : zPr zRfP z0 (fX6_putBytes N x0 x1 x2 x3 z) := by
  unfold fX6_putBytes
  exact zp_l (fun v1 => pX6_putBytes_16  _ _ _ _ _ _ _ h)
theorem pX7_beginSegment {z0 z : St} {N : Nat} {x0 : Nat} {x1 : Int32} {x2 : Int32} {x3 : Int32} {x4 : Int32} (h : zEq zRfP z0 z) : zPr zRfP z0 (fX7_beginSegment N x0 x1 x2 x3 x4 z) := by
  unfold fX7_beginSegment
  exact zp_c (pX7_begin  h) (fun _ z2 h1 => zp_c (pX7_put4  h1) (fun _ z6 h2 => zp_c (pX7_put4  h2) (fun _ z10 h3 => zp_c (pX7_put2  h3) (fun _ z14 h4 => zp_c (pX7_put2  h4) (fun _ z18 h5 => zp_c (pX7_put2  h5) (fun _ z22 h6 => zp_s h6))))))
theorem pX3_makeBytes_13 {z0 z : St} {N : Nat} {x0 : Nat} {x1 : Nat} {x2 : Int32} {x3 : Int32} {x4 : Int32} {s0 : Nat} {s1 : Int32} (h : zEq zRfP z0 z) : zPr zRfP z0 (fX3_makeBytes_13 N x0 x1 x2 x3 x4 s0 s1 z) := by
  unfold fX3_makeBytes_13
  exact zp_l (fun y1 => zp_d (fun a2 => zp_l (fun y3 => zp_d (fun a4 => zp_c (pX4_room  h) (fun r5 z6 h1 => zp_c (pX7_beginSegment  h1) (fun _ z10 h2 => zp_l (fun y13 => zp_d (fun a14 => zp_c (pX6_putBytes  h2) (fun _ z16 h3 => zp_lI h3 rfl (fun z19 h4 => zp_s h4))))))))))
theorem pX3_makeBytes {z0 z : St} {N : Nat} {x0 : Nat} {x1 : Nat} {x2 : Int32} {x3 : Int32} {x4 : Int32} {x5 : Int32} (h : zEq zRfP z0 z) : zPr zRfP z0 (fX3_makeBytes N x0 x1 x2 x3 x4 x5 z) := by
  unfold fX3_makeBytes
  exact zp_i (pX3_makeBytes_13  h) (pX3_makeBytes_13  h)
theorem pX3_makeAgain_64 {z0 z : St} {N : Nat} {x0 : Nat} {x1 : Nat} {x2 : Int32} {s0 : Int32} (h : zEq zRfP z0 z) : zPr zRfP z0 (fX3_makeAgain_64 N x0 x1 x2 s0 z) := by
  unfold fX3_makeAgain_64
  exact zp_l (fun y1 => zp_d (fun a2 => zp_c (pX3_makeBytes  h) (fun _ z4 h1 => zp_s h1)))
theorem pX3_makeAgain_63 {z0 z : St} {N : Nat} {x0 : Nat} {x1 : Nat} {x2 : Int32} (h : zEq zRfP z0 z) : zPr zRfP z0 (fX3_makeAgain_63 N x0 x1 x2 z) := by
  unfold fX3_makeAgain_63
  exact pX3_makeAgain_64  h
theorem pX3_makeAgain {z0 z : St} {N : Nat} {x0 : Nat} {x1 : Nat} (h : zEq zRfP z0 z) : zPr zRfP z0 (fX3_makeAgain N x0 x1 z) := by
  unfold fX3_makeAgain
  exact zp_lI h rfl (fun z1 h1 => zp_l (fun y2 => zp_d (fun a3 => zp_lI h1 rfl (fun z4 h2 => zp_l (fun y5 => zp_d (fun a6 => zp_l (fun v7 => zp_l (fun y8 => zp_d (fun a9 => zp_i (pX3_makeAgain_63  h2) (zp_l (fun y11 => zp_d (fun a12 => zp_i (pX3_makeAgain_63  h2) (zp_l (fun y14 => zp_d (fun a15 => zp_i (pX3_makeAgain_63  h2) (pX3_makeAgain_64  h2))))))))))))))))
theorem pX10_sentNew_17 {z0 z : St} {N : Nat} {x0 : Nat} {x1 : Int32} {x2 : Int32} (h : zEq zRfP z0 z) : zPr zRfP z0 (fX10_sentNew_17 N x0 x1 x2 z) := by
  unfold fX10_sentNew_17
  exact zp_i (zp_lI h rfl (fun z2 h1 => zp_lI h1 rfl (fun z3 h2 => zp_lI h2 rfl (fun z4 h3 => zp_s h3)))) (zp_s h)
theorem pX10_sentNew {z0 z : St} {N : Nat} {x0 : Nat} {x1 : Int32} {x2 : Int32} (h : zEq zRfP z0 z) : zPr zRfP z0 (fX10_sentNew N x0 x1 x2 z) := by
  unfold fX10_sentNew
  exact zp_i (pX10_sentNew_17  h) (zp_lI h rfl (fun z2 h1 => pX10_sentNew_17  h1))
theorem pX3_goAhead_69 {z0 z : St} {N : Nat} {x0 : Nat} {x4 : Int32} (h : zEq zRfP z0 z) : zPr zRfP z0 (fX3_goAhead_69 N x0 x4 z) := by
  unfold fX3_goAhead_69
  exact zp_l (fun y1 => zp_l (fun y2 => zp_d (fun a3 => zp_d (fun a4 => zp_c (pX10_sentNew  h) (fun _ z6 h1 => zp_s h1)))))
theorem pX3_goAhead_53 {z0 z : St} {N : Nat} {x0 : Nat} {x3 : Int32} {x4 : Int32} {s0 : Nat} {s1 : Int32} {s2 : Int32} (h : zEq zRfP z0 z) : zPr zRfP z0 (fX3_goAhead_53 N x0 x3 x4 s0 s1 s2 z) := by
  unfold fX3_goAhead_53
  exact zp_lI h rfl (fun z1 h1 => zp_i (pX3_goAhead_69  h1) (zp_l (fun y3 => zp_d (fun a4 => zp_lI h1 rfl (fun z5 h2 => pX3_goAhead_69  h2)))))
theorem pX3_goAhead {z0 z : St} {N : Nat} {x0 : Nat} {x1 : Nat} {x2 : Int32} {x3 : Int32} {x4 : Int32} (h : zEq zRfP z0 z) : zPr zRfP z0 (fX3_goAhead N x0 x1 x2 x3 x4 z) := by
  unfold fX3_goAhead
  exact zp_l (fun y1 => zp_d (fun a2 => zp_l (fun y3 => zp_d (fun a4 => zp_c (pX3_makeBytes  h) (fun _ z6 h1 => zp_l (fun y9 => zp_d (fun a10 => zp_lI h1 rfl (fun z11 h2 => zp_l (fun y12 => zp_d (fun a13 => zp_i (pX3_goAhead_53  h2) (pX3_goAhead_53  h2)))))))))))
theorem pX3_makeNew_121 {z0 z : St} {N : Nat} {x0 : Nat} {x1 : Nat} {x2 : Int32} {x4 : Int32} {x5 : Int32} (h : zEq zRfP z0 z) : zPr zRfP z0 (fX3_makeNew_121 N x0 x1 x2 x4 x5 z) := by
  unfold fX3_makeNew_121
  exact zp_c (pX3_goAhead  h) (fun _ z2 h1 => zp_s h1)
theorem pX3_makeNew_107 {z0 z : St} {N : Nat} {x0 : Nat} {x1 : Nat} {x2 : Int32} {x4 : Int32} {s0 : Int32} (h : zEq zRfP z0 z) : zPr zRfP z0 (fX3_makeNew_107 N x0 x1 x2 x4 s0 z) := by
  unfold fX3_makeNew_107
  exact zp_i (pX3_makeNew_121  h) (zp_i (pX3_makeNew_121  h) (zp_s h))
theorem pX3_makeNew_106 {z0 z : St} {N : Nat} {x0 : Nat} {x1 : Nat} {x2 : Int32} {x4 : Int32} (h : zEq zRfP z0 z) : zPr zRfP z0 (fX3_makeNew_106 N x0 x1 x2 x4 z) := by
  unfold fX3_makeNew_106
  exact pX3_makeNew_107  h
theorem pX3_makeNew {z0 z : St} {N : Nat} {x0 : Nat} {x1 : Nat} {x2 : Int32} (h : zEq zRfP z0 z) : zPr zRfP z0 (fX3_makeNew N x0 x1 x2 z) := by
  unfold fX3_makeNew
  exact zp_l (fun y1 => zp_d (fun a2 => zp_l (fun y3 => zp_d (fun a4 => zp_l (fun y5 => zp_d (fun a6 => zp_l (fun v7 => zp_l (fun y8 => zp_d (fun a9 => zp_l (fun y10 => zp_d (fun a11 => zp_l (fun v12 => zp_l (fun y13 => zp_d (fun a14 => zp_i (pX3_makeNew_106  h) (zp_l (fun y16 => zp_d (fun a17 => zp_i (pX3_makeNew_106  h) (zp_l (fun y19 => zp_d (fun a20 => zp_l (fun y21 => zp_d (fun a22 => zp_i (pX3_makeNew_106  h) (zp_i (pX3_makeNew_106  h) (pX3_makeNew_107  h))))))))))))))))))))))))
theorem pX3_makeOpen_147 {z0 z : St} {N : Nat} {x0 : Nat} (h : zEq zRfP z0 z) : zPr zRfP z0 (fX3_makeOpen_147 N x0 z) := by
  unfold fX3_makeOpen_147
  exact zp_lI h rfl (fun z1 h1 => zp_s h1)
theorem pX3_makeOpen_96 {z0 z : St} {N : Nat} {x0 : Nat} {x2 : Int32} (h : zEq zRfP z0 z) : zPr zRfP z0 (fX3_makeOpen_96 N x0 x2 z) := by
  unfold fX3_makeOpen_96
  exact zp_i (zp_l (fun y2 => zp_d (fun a3 => zp_i (pX3_makeOpen_147  h) (zp_l (fun y5 => zp_l (fun y6 => zp_d (fun a7 => zp_d (fun a8 => zp_lI h rfl (fun z9 h1 => pX3_makeOpen_147  h1))))))))) (zp_l (fun y10 => zp_l (fun y11 => zp_d (fun a12 => zp_d (fun a13 => zp_c (pX10_sentNew  h) (fun _ z15 h2 => pX3_makeOpen_147  h2))))))
theorem pX3_makeOpen_81 {z0 z : St} {N : Nat} {x0 : Nat} {x2 : Int32} (h : zEq zRfP z0 z) : zPr zRfP z0 (fX3_makeOpen_81 N x0 x2 z) := by
  unfold fX3_makeOpen_81
  exact zp_i (pX3_makeOpen_96  h) (zp_l (fun y2 => zp_d (fun a3 => zp_lI h rfl (fun z4 h1 => pX3_makeOpen_96  h1))))
theorem pX3_makeOpen_52 {z0 z : St} {N : Nat} {x0 : Nat} {x1 : Nat} {x2 : Int32} {x3 : Int32} {s0 : Nat} {s1 : Int32} {s2 : Int32} {s3 : Int32} (h : zEq zRfP z0 z) : zPr zRfP z0 (fX3_makeOpen_52 N x0 x1 x2 x3 s0 s1 s2 s3 z) := by
  unfold fX3_makeOpen_52
  exact zp_l (fun y1 => zp_d (fun a2 => zp_c (pX4_room  h) (fun r3 z4 h1 => zp_c (pX7_beginSegment  h1) (fun _ z8 h2 => zp_c (pX7_put2  h2) (fun _ z12 h3 => zp_i (pX3_makeOpen_81  h3) (zp_lI h3 rfl (fun z16 h4 => pX3_makeOpen_81  h4)))))))
theorem pX3_makeOpen_30 {z0 z : St} {N : Nat} {x0 : Nat} {x1 : Nat} {x2 : Int32} {x3 : Int32} {s0 : Nat} {s1 : Int32} (h : zEq zRfP z0 z) : zPr zRfP z0 (fX3_makeOpen_30 N x0 x1 x2 x3 s0 s1 z) := by
  unfold fX3_makeOpen_30
  exact zp_l (fun y1 => zp_d (fun a2 => zp_i (pX3_makeOpen_52  h) (zp_l (fun y4 => zp_d (fun a5 => pX3_makeOpen_52  h)))))
theorem pX3_makeOpen_13 {z0 z : St} {N : Nat} {x0 : Nat} {x1 : Nat} {x2 : Int32} {s0 : Int32} (h : zEq zRfP z0 z) : zPr zRfP z0 (fX3_makeOpen_13 N x0 x1 x2 s0 z) := by
  unfold fX3_makeOpen_13
  exact zp_lI h rfl (fun z1 h1 => zp_i (pX3_makeOpen_30  h1) (pX3_makeOpen_30  h1))
theorem pX3_makeOpen {z0 z : St} {N : Nat} {x0 : Nat} {x1 : Nat} {x2 : Int32} (h : zEq zRfP z0 z) : zPr zRfP z0 (fX3_makeOpen N x0 x1 x2 z) := by
  unfold fX3_makeOpen
  exact zp_i (pX3_makeOpen_13  h) (pX3_makeOpen_13  h)
theorem pX3_makeProbe_58 {z0 z : St} {N : Nat} {x2 : Int32} {x3 : Int32} {s0 : Nat} {s1 : Nat} {s2 : Int32} (h : zEq zRfP z0 z) : zPr zRfP z0 (fX3_makeProbe_58 N x2 x3 s0 s1 s2 z) := by
  unfold fX3_makeProbe_58
  exact zp_c (pX3_goAhead  h) (fun _ z2 h1 => zp_s h1)
theorem pX3_makeProbe_46 {z0 z : St} {N : Nat} {x0 : Nat} {x1 : Nat} {x2 : Int32} {s0 : Int32} (h : zEq zRfP z0 z) : zPr zRfP z0 (fX3_makeProbe_46 N x0 x1 x2 s0 z) := by
  unfold fX3_makeProbe_46
  exact zp_i (pX3_makeProbe_58  h) (pX3_makeProbe_58  h)
theorem pX3_makeProbe {z0 z : St} {N : Nat} {x0 : Nat} {x1 : Nat} {x2 : Int32} (h : zEq zRfP z0 z) : zPr zRfP z0 (fX3_makeProbe N x0 x1 x2 z) := by
  unfold fX3_makeProbe
  exact zp_lI h rfl (fun z1 h1 => zp_c (pX3_sendsNew  h1) (fun r2 z3 h2 => zp_i (zp_s h2) (zp_l (fun y7 => zp_d (fun a8 => zp_c (pX6_hasNew  h2) (fun r9 z10 h3 => zp_i (zp_l (fun y14 => zp_d (fun a15 => zp_l (fun y16 => zp_d (fun a17 => zp_i (pX3_makeProbe_46  h3) (pX3_makeProbe_46  h3)))))) (zp_s h3)))))))
theorem pX3_makeNext_96 {z0 z : St} {N : Nat} {x0 : Nat} {x1 : Nat} (h : zEq zRfP z0 z) : zPr zRfP z0 (fX3_makeNext_96 N x0 x1 z) := by
  unfold fX3_makeNext_96
  exact zp_i (zp_l (fun y2 => zp_d (fun a3 => zp_c (pX3_makeBytes  h) (fun _ z5 h1 => zp_s h1)))) (zp_s h)
theorem pX3_makeNext_78 {z0 z : St} {N : Nat} {x0 : Nat} {x1 : Nat} {x2 : Int32} (h : zEq zRfP z0 z) : zPr zRfP z0 (fX3_makeNext_78 N x0 x1 x2 z) := by
  unfold fX3_makeNext_78
  exact zp_i (pX3_makeNext_96  h) (zp_c (pX3_makeProbe  h) (fun r2 z3 h1 => zp_i (pX3_makeNext_96  h1) (zp_s h1)))
theorem pX3_makeNext {z0 z : St} {N : Nat} {x0 : Nat} {x1 : Nat} {x2 : Int32} (h : zEq zRfP z0 z) : zPr zRfP z0 (fX3_makeNext N x0 x1 x2 z) := by
  unfold fX3_makeNext
  exact zp_i (zp_i (zp_i (zp_c (pX3_sendsNew  h) (fun r4 z5 h1 => zp_i (pX3_makeNext_78  h1) (zp_c (pX3_makeNew  h1) (fun r9 z10 h2 => zp_i (pX3_makeNext_78  h2) (zp_s h2))))) (zp_c (pX3_makeAgain  h) (fun _ z15 h3 => zp_s h3))) (zp_c (pX3_makeOpen  h) (fun _ z19 h4 => zp_s h4))) (zp_lI h rfl (fun z22 h5 => zp_c (pX7_beginSegment  h5) (fun _ z24 h6 => zp_s h6)))
theorem pX5_addFate {z0 z : St} {N : Nat} {x0 : Nat} {x1 : Int32} (h : zEq zRfP z0 z) : zPr zRfP z0 (fX5_addFate N x0 x1 z) := by
  unfold fX5_addFate
  exact zp_i (zp_k (zp_lA h rfl (fun z3 h1 => zp_lI h1 rfl (fun z4 h2 => zp_s h2)))) (zp_s h)
theorem pX5_nextFate {z0 z : St} {N : Nat} {x0 : Nat} (h : zEq zRfP z0 z) : zPr zRfP z0 (fX5_nextFate N x0 z) := by
  unfold fX5_nextFate
  exact zp_i (zp_k (zp_l (fun v3 => zp_lI h rfl (fun z4 h1 => zp_lI h1 rfl (fun z5 h2 => zp_s h2))))) (zp_s h)
theorem pX5_addressOf {z0 z : St} {N : Nat} {x0 : Nat} {x1 : Int32} (h : zEq zRfP z0 z) : zPr zRfP z0 (fX5_addressOf N x0 x1 z) := by
  unfold fX5_addressOf
  exact zp_s h
theorem pX5_leastRouter_2b {z0 z : St} {N : Nat} {K2 : Nat → Int32 → St → Option (Int32 × St)} {x0 : Nat} {x1 : Int32} (hK2 : ∀ a0 a1 a2, zEq zRfP z0 a2 → zPr zRfP z0 (K2 a0 a1 a2)) (h : zEq zRfP z0 z) : zPr zRfP z0 (fX5_leastRouter_2b N K2 x0 x1 z) := by
  unfold fX5_leastRouter_2b
  exact zp_i (zp_s h) (zp_k (zp_l (fun y3 => zp_d (fun a4 => zp_l (fun y5 => zp_d (fun a6 => zp_i (zp_l (fun v8 => hK2 _ _ _ h)) (zp_s h)))))))
theorem pX5_leastRouter_2 {z0 : St} {N : Nat} : ∀ (n : Nat) (y0 : Nat) (y1 : Int32) (z : St), zEq zRfP z0 z → zPr zRfP z0 (fX5_leastRouter_2 N n y0 y1 z) := by
  intro n
  induction n with
  | zero => intro y0 y1 z h; exact zp_n
  | succ n ih => intro y0 y1 z h; exact pX5_leastRouter_2b  (fun _ _ _ h => ih _ _ _ h) h
theorem pX5_leastRouter {z0 z : St} {N : Nat} {x0 : Nat} (h : zEq zRfP z0 z) : zPr zRfP z0 (fX5_leastRouter N x0 z) := by
  unfold fX5_leastRouter
  exact pX5_leastRouter_2  _ _ _ _ h
theorem pX6_add {z0 z : St} {N : Nat} {x0 : Nat} {x1 : Int32} (h : zEq zRfP z0 z) : zPr zRfP z0 (fX6_add N x0 x1 z) := by
  unfold fX6_add
  exact zp_i (zp_k (zp_lA h rfl (fun z3 h1 => zp_lI h1 rfl (fun z4 h2 => zp_s h2)))) (zp_s h)
theorem pX7_get4 {z0 z : St} {N : Nat} {x0 : Nat} {x1 : Int32} (h : zEq zRfP z0 z) : zPr zRfP z0 (fX7_get4 N x0 x1 z) := by
  unfold fX7_get4
  exact zp_c (pX7_get2  h) (fun r1 z2 h1 => zp_c (pX7_get2  h1) (fun r5 z6 h2 => zp_s h2))
theorem pX7_readHead {z0 z : St} {N : Nat} {x0 : Nat} (h : zEq zRfP z0 z) : zPr zRfP z0 (fX7_readHead N x0 z) := by
  unfold fX7_readHead
  exact zp_c (pX7_get4  h) (fun r1 z2 h1 => zp_lI h1 rfl (fun z5 h2 => zp_c (pX7_get4  h2) (fun r6 z7 h3 => zp_lI h3 rfl (fun z10 h4 => zp_c (pX7_get2  h4) (fun r11 z12 h5 => zp_lI h5 rfl (fun z15 h6 => zp_c (pX7_get2  h6) (fun r16 z17 h7 => zp_lI h7 rfl (fun z20 h8 => zp_c (pX7_get2  h8) (fun r21 z22 h9 => zp_lI h9 rfl (fun z25 h10 => zp_s h10))))))))))
theorem pX8_knows {z0 z : St} {N : Nat} {x0 : Nat} {x1 : Int32} {x2 : Int32} (h : zEq zRfP z0 z) : zPr zRfP z0 (fX8_knows N x0 x1 x2 z) := by
  unfold fX8_knows
  exact zp_k (zp_i (zp_s h) (zp_k (zp_i (zp_s h) (zp_s h))))
theorem pX8_isAsked {z0 z : St} {N : Nat} {x0 : Nat} {x1 : Int32} (h : zEq zRfP z0 z) : zPr zRfP z0 (fX8_isAsked N x0 x1 z) := by
  unfold fX8_isAsked
  exact zp_k (zp_i (zp_s h) (zp_s h))
theorem pX8_beginAsking {z0 z : St} {N : Nat} {x0 : Nat} {x1 : Int32} {x2 : Int32} (h : zEq zRfP z0 z) : zPr zRfP z0 (fX8_beginAsking N x0 x1 x2 z) := by
  unfold fX8_beginAsking
  exact zp_i (zp_k (zp_lA h rfl (fun z3 h1 => zp_k (zp_lA h1 rfl (fun z5 h2 => zp_lI h2 rfl (fun z6 h3 => zp_s h3)))))) (zp_s h)
theorem pX8_endAsking_47 {z0 z : St} {N : Nat} {K11 : Nat → Int32 → Int32 → Int32 → St → Option (Int32 × St)} {x0 : Nat} {x1 : Int32} {x2 : Int32} {x3 : Int32} (hK11 : ∀ a0 a1 a2 a3 a4, zEq zRfP z0 a4 → zPr zRfP z0 (K11 a0 a1 a2 a3 a4)) (h : zEq zRfP z0 z) : zPr zRfP z0 (fX8_endAsking_47 N K11 x0 x1 x2 x3 z) := by
  unfold fX8_endAsking_47
  exact zp_l (fun v1 => hK11 _ _ _ _ _ h)
theorem pX8_endAsking_11b {z0 z : St} {N : Nat} {K11 : Nat → Int32 → Int32 → Int32 → St → Option (Int32 × St)} {x0 : Nat} {x1 : Int32} {x2 : Int32} {x3 : Int32} (hK11 : ∀ a0 a1 a2 a3 a4, zEq zRfP z0 a4 → zPr zRfP z0 (K11 a0 a1 a2 a3 a4)) (h : zEq zRfP z0 z) : zPr zRfP z0 (fX8_endAsking_11b N K11 x0 x1 x2 x3 z) := by
  unfold fX8_endAsking_11b
  exact zp_i (zp_lI h rfl (fun z2 h1 => zp_s h1)) (zp_k (zp_i (zp_k (zp_k (zp_lA h rfl (fun z7 h2 => zp_l (fun v8 => pX8_endAsking_47 hK11 h2))))) (pX8_endAsking_47 hK11 h)))
theorem pX8_endAsking_11 {z0 : St} {N : Nat} : ∀ (n : Nat) (y0 : Nat) (y1 : Int32) (y2 : Int32) (y3 : Int32) (z : St), zEq zRfP z0 z → zPr zRfP z0 (fX8_endAsking_11 N n y0 y1 y2 y3 z) := by
  intro n
  induction n with
  | zero => intro y0 y1 y2 y3 z h; exact zp_n
  | succ n ih => intro y0 y1 y2 y3 z h; exact pX8_endAsking_11b  (fun _ _ _ _ _ h => ih _ _ _ _ _ h) h
theorem pX8_endAsking {z0 z : St} {N : Nat} {x0 : Nat} {x1 : Int32} (h : zEq zRfP z0 z) : zPr zRfP z0 (fX8_endAsking N x0 x1 z) := by
  unfold fX8_endAsking
  exact zp_k (zp_lA h rfl (fun z2 h1 => pX8_endAsking_11  _ _ _ _ _ _ h1))
theorem pX8_rememberAsked_2b {z0 z : St} {N : Nat} {K2 : Nat → Int32 → St → Option (Int32 × St)} {x0 : Nat} {x1 : Int32} (hK2 : ∀ a0 a1 a2, zEq zRfP z0 a2 → zPr zRfP z0 (K2 a0 a1 a2)) (h : zEq zRfP z0 z) : zPr zRfP z0 (fX8_rememberAsked_2b N K2 x0 x1 z) := by
  unfold fX8_rememberAsked_2b
  exact zp_i (zp_s h) (zp_k (zp_k (zp_lA h rfl (fun z4 h1 => zp_l (fun v5 => hK2 _ _ _ h1)))))
theorem pX8_rememberAsked_2 {z0 : St} {N : Nat} : ∀ (n : Nat) (y0 : Nat) (y1 : Int32) (z : St), zEq zRfP z0 z → zPr zRfP z0 (fX8_rememberAsked_2 N n y0 y1 z) := by
  intro n
  induction n with
  | zero => intro y0 y1 z h; exact zp_n
  | succ n ih => intro y0 y1 z h; exact pX8_rememberAsked_2b  (fun _ _ _ h => ih _ _ _ h) h
theorem pX8_rememberAsked {z0 z : St} {N : Nat} {x0 : Nat} (h : zEq zRfP z0 z) : zPr zRfP z0 (fX8_rememberAsked N x0 z) := by
  unfold fX8_rememberAsked
  exact pX8_rememberAsked_2  _ _ _ _ h
theorem pX8_letWait {z0 z : St} {N : Nat} {x0 : Nat} {x1 : Nat} {x2 : Int32} (h : zEq zRfP z0 z) : zPr zRfP z0 (fX8_letWait N x0 x1 x2 z) := by
  unfold fX8_letWait
  exact zp_i (zp_k (zp_l (fun y3 => zp_d (fun a4 => zp_c (pX7_copyPart  h) (fun _ z6 h1 => zp_lI h1 rfl (fun z9 h2 => zp_lI h2 rfl (fun z10 h3 => zp_s h3))))))) (zp_s h)
theorem pX8_firstWaitingFor_2b {z0 z : St} {N : Nat} {K2 : Nat → Int32 → Int32 → St → Option (Int32 × St)} {x0 : Nat} {x1 : Int32} {x2 : Int32} (hK2 : ∀ a0 a1 a2 a3, zEq zRfP z0 a3 → zPr zRfP z0 (K2 a0 a1 a2 a3)) (h : zEq zRfP z0 z) : zPr zRfP z0 (fX8_firstWaitingFor_2b N K2 x0 x1 x2 z) := by
  unfold fX8_firstWaitingFor_2b
  exact zp_i (zp_s h) (zp_k (zp_l (fun y3 => zp_d (fun a4 => zp_i (zp_l (fun v6 => hK2 _ _ _ _ h)) (zp_s h)))))
theorem pX8_firstWaitingFor_2 {z0 : St} {N : Nat} : ∀ (n : Nat) (y0 : Nat) (y1 : Int32) (y2 : Int32) (z : St), zEq zRfP z0 z → zPr zRfP z0 (fX8_firstWaitingFor_2 N n y0 y1 y2 z) := by
  intro n
  induction n with
  | zero => intro y0 y1 y2 z h; exact zp_n
  | succ n ih => intro y0 y1 y2 z h; exact pX8_firstWaitingFor_2b  (fun _ _ _ _ h => ih _ _ _ _ h) h
theorem pX8_firstWaitingFor {z0 z : St} {N : Nat} {x0 : Nat} {x1 : Int32} (h : zEq zRfP z0 z) : zPr zRfP z0 (fX8_firstWaitingFor N x0 x1 z) := by
  unfold fX8_firstWaitingFor
  exact pX8_firstWaitingFor_2  _ _ _ _ _ h
theorem pX8_countWaitingFor_28 {z0 z : St} {N : Nat} {K4 : Nat → Int32 → Int32 → Int32 → St → Option (Int32 × St)} {x0 : Nat} {x1 : Int32} {x2 : Int32} {x3 : Int32} (hK4 : ∀ a0 a1 a2 a3 a4, zEq zRfP z0 a4 → zPr zRfP z0 (K4 a0 a1 a2 a3 a4)) (h : zEq zRfP z0 z) : zPr zRfP z0 (fX8_countWaitingFor_28 N K4 x0 x1 x2 x3 z) := by
  unfold fX8_countWaitingFor_28
  exact zp_l (fun v1 => hK4 _ _ _ _ _ h)
theorem pX8_countWaitingFor_4b {z0 z : St} {N : Nat} {K4 : Nat → Int32 → Int32 → Int32 → St → Option (Int32 × St)} {x0 : Nat} {x1 : Int32} {x2 : Int32} {x3 : Int32} (hK4 : ∀ a0 a1 a2 a3 a4, zEq zRfP z0 a4 → zPr zRfP z0 (K4 a0 a1 a2 a3 a4)) (h : zEq zRfP z0 z) : zPr zRfP z0 (fX8_countWaitingFor_4b N K4 x0 x1 x2 x3 z) := by
  unfold fX8_countWaitingFor_4b
  exact zp_i (zp_s h) (zp_k (zp_l (fun y3 => zp_d (fun a4 => zp_i (pX8_countWaitingFor_28 hK4 h) (zp_l (fun v6 => pX8_countWaitingFor_28 hK4 h))))))
theorem pX8_countWaitingFor_4 {z0 : St} {N : Nat} : ∀ (n : Nat) (y0 : Nat) (y1 : Int32) (y2 : Int32) (y3 : Int32) (z : St), zEq zRfP z0 z → zPr zRfP z0 (fX8_countWaitingFor_4 N n y0 y1 y2 y3 z) := by
  intro n
  induction n with
  | zero => intro y0 y1 y2 y3 z h; exact zp_n
  | succ n ih => intro y0 y1 y2 y3 z h; exact pX8_countWaitingFor_4b  (fun _ _ _ _ _ h => ih _ _ _ _ _ h) h
theorem pX8_countWaitingFor {z0 z : St} {N : Nat} {x0 : Nat} {x1 : Int32} (h : zEq zRfP z0 z) : zPr zRfP z0 (fX8_countWaitingFor N x0 x1 z) := by
  unfold fX8_countWaitingFor
  exact pX8_countWaitingFor_4  _ _ _ _ _ _ h
theorem pX8_takeWaiting_9b {z0 z : St} {N : Nat} {K9 : Nat → Option Nat → Int32 → St → Option (Option Nat × St)} {x0 : Nat} {x2 : Option Nat} {x3 : Int32} (hK9 : ∀ a0 a1 a2 a3, zEq zRfP z0 a3 → zPr zRfP z0 (K9 a0 a1 a2 a3)) (h : zEq zRfP z0 z) : zPr zRfP z0 (fX8_takeWaiting_9b N K9 x0 x2 x3 z) := by
  unfold fX8_takeWaiting_9b
  exact zp_i (zp_lI h rfl (fun z2 h1 => zp_k (zp_lQ h1 rfl (fun z4 h2 => zp_s h2)))) (zp_k (zp_l (fun y6 => zp_k (zp_lQ h rfl (fun z8 h3 => zp_l (fun v9 => hK9 _ _ _ _ h3))))))
theorem pX8_takeWaiting_9 {z0 : St} {N : Nat} : ∀ (n : Nat) (y0 : Nat) (y1 : Option Nat) (y2 : Int32) (z : St), zEq zRfP z0 z → zPr zRfP z0 (fX8_takeWaiting_9 N n y0 y1 y2 z) := by
  intro n
  induction n with
  | zero => intro y0 y1 y2 z h; exact zp_n
  | succ n ih => intro y0 y1 y2 z h; exact pX8_takeWaiting_9b  (fun _ _ _ _ h => ih _ _ _ _ h) h
theorem pX8_takeWaiting {z0 z : St} {N : Nat} {x0 : Nat} {x1 : Int32} (h : zEq zRfP z0 z) : zPr zRfP z0 (fX8_takeWaiting N x0 x1 z) := by
  unfold fX8_takeWaiting
  exact zp_k (zp_l (fun y2 => pX8_takeWaiting_9  _ _ _ _ _ h))
theorem pX9_beginHearing_51 {z0 z : St} {N : Nat} {x0 : Nat} {x1 : Int32} {x2 : Int32} (h : zEq zRfP z0 z) : zPr zRfP z0 (fX9_beginHearing_51 N x0 x1 x2 z) := by
  unfold fX9_beginHearing_51
  exact zp_k (zp_lA h rfl (fun z2 h1 => zp_lI h1 rfl (fun z3 h2 => zp_s h2)))
theorem pX9_beginHearing_15b {z0 z : St} {N : Nat} {K15 : Nat → Int32 → Int32 → St → Option (Int32 × St)} {x0 : Nat} {x1 : Int32} {x2 : Int32} (hK15 : ∀ a0 a1 a2 a3, zEq zRfP z0 a3 → zPr zRfP z0 (K15 a0 a1 a2 a3)) (h : zEq zRfP z0 z) : zPr zRfP z0 (fX9_beginHearing_15b N K15 x0 x1 x2 z) := by
  unfold fX9_beginHearing_15b
  exact zp_i (pX9_beginHearing_51  h) (zp_k (zp_i (pX9_beginHearing_51  h) (zp_k (zp_k (zp_lA h rfl (fun z6 h1 => zp_l (fun v7 => hK15 _ _ _ _ h1)))))))
theorem pX9_beginHearing_15 {z0 : St} {N : Nat} : ∀ (n : Nat) (y0 : Nat) (y1 : Int32) (y2 : Int32) (z : St), zEq zRfP z0 z → zPr zRfP z0 (fX9_beginHearing_15 N n y0 y1 y2 z) := by
  intro n
  induction n with
  | zero => intro y0 y1 y2 z h; exact zp_n
  | succ n ih => intro y0 y1 y2 z h; exact pX9_beginHearing_15b  (fun _ _ _ _ h => ih _ _ _ _ h) h
theorem pX9_beginHearing {z0 z : St} {N : Nat} {x0 : Nat} {x1 : Int32} (h : zEq zRfP z0 z) : zPr zRfP z0 (fX9_beginHearing N x0 x1 z) := by
  unfold fX9_beginHearing
  exact zp_i (zp_l (fun v2 => pX9_beginHearing_15  _ _ _ _ _ h)) (zp_s h)
theorem pX9_setDue_21 {z0 z : St} {N : Nat} {x0 : Nat} {x1 : Int32} {x2 : Int32} {x3 : Int32} (h : zEq zRfP z0 z) : zPr zRfP z0 (fX9_setDue_21 N x0 x1 x2 x3 z) := by
  unfold fX9_setDue_21
  exact zp_k (zp_k (zp_lA h rfl (fun z3 h1 => zp_i (zp_s h1) (zp_lI h1 rfl (fun z5 h2 => zp_s h2)))))
theorem pX9_setDue {z0 z : St} {N : Nat} {x0 : Nat} {x1 : Int32} {x2 : Int32} {x3 : Int32} (h : zEq zRfP z0 z) : zPr zRfP z0 (fX9_setDue N x0 x1 x2 x3 z) := by
  unfold fX9_setDue
  exact zp_k (zp_k (zp_i (pX9_setDue_21  h) (zp_lI h rfl (fun z4 h1 => pX9_setDue_21  h1))))
theorem pX9_setFriend_59 {z0 z : St} {N : Nat} {K26 : Nat → Int32 → Int32 → Int32 → Int32 → St → Option (Int32 × St)} {x0 : Nat} {x1 : Int32} {x2 : Int32} {x3 : Int32} {x4 : Int32} {s0 : Nat} {s1 : Int32} {s2 : Int32} {s3 : Int32} (hK26 : ∀ a0 a1 a2 a3 a4 a5, zEq zRfP z0 a5 → zPr zRfP z0 (K26 a0 a1 a2 a3 a4 a5)) (h : zEq zRfP z0 z) : zPr zRfP z0 (fX9_setFriend_59 N K26 x0 x1 x2 x3 x4 s0 s1 s2 s3 z) := by
  unfold fX9_setFriend_59
  exact zp_c (pX9_setDue  h) (fun _ z2 h1 => zp_l (fun v5 => hK26 _ _ _ _ _ _ h1))
theorem pX9_setFriend_58 {z0 z : St} {N : Nat} {K26 : Nat → Int32 → Int32 → Int32 → Int32 → St → Option (Int32 × St)} {x0 : Nat} {x1 : Int32} {x2 : Int32} {x3 : Int32} {x4 : Int32} {s0 : Nat} {s1 : Int32} {s2 : Int32} (hK26 : ∀ a0 a1 a2 a3 a4 a5, zEq zRfP z0 a5 → zPr zRfP z0 (K26 a0 a1 a2 a3 a4 a5)) (h : zEq zRfP z0 z) : zPr zRfP z0 (fX9_setFriend_58 N K26 x0 x1 x2 x3 x4 s0 s1 s2 z) := by
  unfold fX9_setFriend_58
  exact pX9_setFriend_59 hK26 h
theorem pX9_setFriend_26b {z0 z : St} {N : Nat} {K26 : Nat → Int32 → Int32 → Int32 → Int32 → St → Option (Int32 × St)} {x0 : Nat} {x1 : Int32} {x2 : Int32} {x3 : Int32} {x4 : Int32} (hK26 : ∀ a0 a1 a2 a3 a4 a5, zEq zRfP z0 a5 → zPr zRfP z0 (K26 a0 a1 a2 a3 a4 a5)) (h : zEq zRfP z0 z) : zPr zRfP z0 (fX9_setFriend_26b N K26 x0 x1 x2 x3 x4 z) := by
  unfold fX9_setFriend_26b
  exact zp_i (zp_s h) (zp_i (pX9_setFriend_58 hK26 h) (zp_l (fun y3 => zp_d (fun a4 => zp_k (zp_i (pX9_setFriend_58 hK26 h) (pX9_setFriend_59 hK26 h))))))
theorem pX9_setFriend_26 {z0 : St} {N : Nat} : ∀ (n : Nat) (y0 : Nat) (y1 : Int32) (y2 : Int32) (y3 : Int32) (y4 : Int32) (z : St), zEq zRfP z0 z → zPr zRfP z0 (fX9_setFriend_26 N n y0 y1 y2 y3 y4 z) := by
  intro n
  induction n with
  | zero => intro y0 y1 y2 y3 y4 z h; exact zp_n
  | succ n ih => intro y0 y1 y2 y3 y4 z h; exact pX9_setFriend_26b  (fun _ _ _ _ _ _ h => ih _ _ _ _ _ _ h) h
theorem pX9_setFriend {z0 z : St} {N : Nat} {x0 : Nat} {x1 : Int32} {x2 : Int32} {x3 : Int32} (h : zEq zRfP z0 z) : zPr zRfP z0 (fX9_setFriend N x0 x1 x2 x3 z) := by
  unfold fX9_setFriend
  exact zp_k (zp_i (zp_k (zp_lA h rfl (fun z4 h1 => zp_lI h1 rfl (fun z5 h2 => pX9_setFriend_26  _ _ _ _ _ _ _ h2)))) (zp_s h))
theorem pX9_forget_9b {z0 z : St} {N : Nat} {K9 : Nat → Int32 → Int32 → St → Option (Int32 × St)} {x0 : Nat} {x2 : Int32} {x3 : Int32} (hK9 : ∀ a0 a1 a2 a3, zEq zRfP z0 a3 → zPr zRfP z0 (K9 a0 a1 a2 a3)) (h : zEq zRfP z0 z) : zPr zRfP z0 (fX9_forget_9b N K9 x0 x2 x3 z) := by
  unfold fX9_forget_9b
  exact zp_i (zp_lI h rfl (fun z2 h1 => zp_k (zp_lA h1 rfl (fun z4 h2 => zp_c (pX9_setFriend  h2) (fun _ z6 h3 => zp_s h3))))) (zp_k (zp_k (zp_lA h rfl (fun z11 h4 => zp_l (fun v12 => hK9 _ _ _ _ h4)))))
theorem pX9_forget_9 {z0 : St} {N : Nat} : ∀ (n : Nat) (y0 : Nat) (y1 : Int32) (y2 : Int32) (z : St), zEq zRfP z0 z → zPr zRfP z0 (fX9_forget_9 N n y0 y1 y2 z) := by
  intro n
  induction n with
  | zero => intro y0 y1 y2 z h; exact zp_n
  | succ n ih => intro y0 y1 y2 z h; exact pX9_forget_9b  (fun _ _ _ _ h => ih _ _ _ _ h) h
theorem pX9_forget {z0 z : St} {N : Nat} {x0 : Nat} {x1 : Int32} (h : zEq zRfP z0 z) : zPr zRfP z0 (fX9_forget N x0 x1 z) := by
  unfold fX9_forget
  exact zp_k (zp_l (fun v2 => pX9_forget_9  _ _ _ _ _ h))
theorem pX9_setDueToAll_51 {z0 z : St} {N : Nat} {K3 : Nat → Int32 → Int32 → Int32 → Int32 → St → Option (Int32 × St)} {x0 : Nat} {x1 : Int32} {x2 : Int32} {x3 : Int32} {x4 : Int32} (hK3 : ∀ a0 a1 a2 a3 a4 a5, zEq zRfP z0 a5 → zPr zRfP z0 (K3 a0 a1 a2 a3 a4 a5)) (h : zEq zRfP z0 z) : zPr zRfP z0 (fX9_setDueToAll_51 N K3 x0 x1 x2 x3 x4 z) := by
  unfold fX9_setDueToAll_51
  exact zp_l (fun v1 => hK3 _ _ _ _ _ _ h)
theorem pX9_setDueToAll_3b {z0 z : St} {N : Nat} {K3 : Nat → Int32 → Int32 → Int32 → Int32 → St → Option (Int32 × St)} {x0 : Nat} {x1 : Int32} {x2 : Int32} {x3 : Int32} {x4 : Int32} (hK3 : ∀ a0 a1 a2 a3 a4 a5, zEq zRfP z0 a5 → zPr zRfP z0 (K3 a0 a1 a2 a3 a4 a5)) (h : zEq zRfP z0 z) : zPr zRfP z0 (fX9_setDueToAll_3b N K3 x0 x1 x2 x3 x4 z) := by
  unfold fX9_setDueToAll_3b
  exact zp_i (zp_s h) (zp_k (zp_i (pX9_setDueToAll_51 hK3 h) (zp_k (zp_k (zp_i (pX9_setDueToAll_51 hK3 h) (zp_k (zp_c (pX9_setDue  h) (fun _ z9 h1 => pX9_setDueToAll_51 hK3 h1))))))))
theorem pX9_setDueToAll_3 {z0 : St} {N : Nat} : ∀ (n : Nat) (y0 : Nat) (y1 : Int32) (y2 : Int32) (y3 : Int32) (y4 : Int32) (z : St), zEq zRfP z0 z → zPr zRfP z0 (fX9_setDueToAll_3 N n y0 y1 y2 y3 y4 z) := by
  intro n
  induction n with
  | zero => intro y0 y1 y2 y3 y4 z h; exact zp_n
  | succ n ih => intro y0 y1 y2 y3 y4 z h; exact pX9_setDueToAll_3b  (fun _ _ _ _ _ _ h => ih _ _ _ _ _ _ h) h
theorem pX9_setDueToAll {z0 z : St} {N : Nat} {x0 : Nat} {x1 : Int32} {x2 : Int32} {x3 : Int32} (h : zEq zRfP z0 z) : zPr zRfP z0 (fX9_setDueToAll N x0 x1 x2 x3 z) := by
  unfold fX9_setDueToAll
  exact pX9_setDueToAll_3  _ _ _ _ _ _ _ h
theorem pX9_clearDueOf_2b {z0 z : St} {N : Nat} {K2 : Nat → Int32 → Int32 → St → Option (Int32 × St)} {x0 : Nat} {x1 : Int32} {x2 : Int32} (hK2 : ∀ a0 a1 a2 a3, zEq zRfP z0 a3 → zPr zRfP z0 (K2 a0 a1 a2 a3)) (h : zEq zRfP z0 z) : zPr zRfP z0 (fX9_clearDueOf_2b N K2 x0 x1 x2 z) := by
  unfold fX9_clearDueOf_2b
  exact zp_i (zp_s h) (zp_k (zp_c (pX9_setDue  h) (fun _ z4 h1 => zp_l (fun v7 => hK2 _ _ _ _ h1))))
theorem pX9_clearDueOf_2 {z0 : St} {N : Nat} : ∀ (n : Nat) (y0 : Nat) (y1 : Int32) (y2 : Int32) (z : St), zEq zRfP z0 z → zPr zRfP z0 (fX9_clearDueOf_2 N n y0 y1 y2 z) := by
  intro n
  induction n with
  | zero => intro y0 y1 y2 z h; exact zp_n
  | succ n ih => intro y0 y1 y2 z h; exact pX9_clearDueOf_2b  (fun _ _ _ _ h => ih _ _ _ _ h) h
theorem pX9_clearDueOf {z0 z : St} {N : Nat} {x0 : Nat} {x1 : Int32} (h : zEq zRfP z0 z) : zPr zRfP z0 (fX9_clearDueOf N x0 x1 z) := by
  unfold fX9_clearDueOf
  exact pX9_clearDueOf_2  _ _ _ _ _ h
theorem pX9_addThanks {z0 z : St} {N : Nat} {x0 : Nat} {x1 : Int32} {x2 : Int32} {x3 : Int32} (h : zEq zRfP z0 z) : zPr zRfP z0 (fX9_addThanks N x0 x1 x2 x3 z) := by
  unfold fX9_addThanks
  exact zp_i (zp_k (zp_lA h rfl (fun z3 h1 => zp_k (zp_lA h1 rfl (fun z5 h2 => zp_k (zp_lA h2 rfl (fun z7 h3 => zp_lI h3 rfl (fun z8 h4 => zp_s h4)))))))) (zp_s h)
theorem pX9_draftFriends_64 {z0 z : St} {N : Nat} {K2 : Nat → Nat → Int32 → St → Option (Int32 × St)} {x0 : Nat} {x1 : Nat} {x2 : Int32} (hK2 : ∀ a0 a1 a2 a3, zEq zRfP z0 a3 → zPr zRfP z0 (K2 a0 a1 a2 a3)) (h : zEq zRfP z0 z) : zPr zRfP z0 (fX9_draftFriends_64 N K2 x0 x1 x2 z) := by
  unfold fX9_draftFriends_64
  exact zp_l (fun v1 => hK2 _ _ _ _ h)
theorem pX9_draftFriends_2b {z0 z : St} {N : Nat} {K2 : Nat → Nat → Int32 → St → Option (Int32 × St)} {x0 : Nat} {x1 : Nat} {x2 : Int32} (hK2 : ∀ a0 a1 a2 a3, zEq zRfP z0 a3 → zPr zRfP z0 (K2 a0 a1 a2 a3)) (h : zEq zRfP z0 z) : zPr zRfP z0 (fX9_draftFriends_2b N K2 x0 x1 x2 z) := by
  unfold fX9_draftFriends_2b
  exact zp_i (zp_s h) (zp_k (zp_l (fun v3 => zp_i (pX9_draftFriends_64 hK2 h) (zp_k (zp_i (zp_l (fun y7 => zp_l (fun y8 => zp_d (fun a9 => zp_d (fun a10 => zp_c (pX0_addToDraft  h) (fun _ z12 h1 => pX9_draftFriends_64 hK2 h1)))))) (pX9_draftFriends_64 hK2 h))))))
theorem pX9_draftFriends_2 {z0 : St} {N : Nat} : ∀ (n : Nat) (y0 : Nat) (y1 : Nat) (y2 : Int32) (z : St), zEq zRfP z0 z → zPr zRfP z0 (fX9_draftFriends_2 N n y0 y1 y2 z) := by
  intro n
  induction n with
  | zero => intro y0 y1 y2 z h; exact zp_n
  | succ n ih => intro y0 y1 y2 z h; exact pX9_draftFriends_2b  (fun _ _ _ _ h => ih _ _ _ _ h) h
theorem pX9_draftFriends {z0 z : St} {N : Nat} {x0 : Nat} {x1 : Nat} (h : zEq zRfP z0 z) : zPr zRfP z0 (fX9_draftFriends N x0 x1 z) := by
  unfold fX9_draftFriends
  exact pX9_draftFriends_2  _ _ _ _ _ h
theorem pX9_draftAdvert_52 {z0 z : St} {N : Nat} {K10 : Nat → Nat → Int32 → Int32 → St → Option (Int32 × St)} {x0 : Nat} {x1 : Nat} {x2 : Int32} {x3 : Int32} (hK10 : ∀ a0 a1 a2 a3 a4, zEq zRfP z0 a4 → zPr zRfP z0 (K10 a0 a1 a2 a3 a4)) (h : zEq zRfP z0 z) : zPr zRfP z0 (fX9_draftAdvert_52 N K10 x0 x1 x2 x3 z) := by
  unfold fX9_draftAdvert_52
  exact zp_l (fun v1 => hK10 _ _ _ _ _ h)
theorem pX9_draftAdvert_83 {z0 z : St} {N : Nat} {K60 : Nat → Nat → Int32 → Int32 → St → Option (Int32 × St)} {x0 : Nat} {x1 : Nat} {x2 : Int32} {x3 : Int32} (hK60 : ∀ a0 a1 a2 a3 a4, zEq zRfP z0 a4 → zPr zRfP z0 (K60 a0 a1 a2 a3 a4)) (h : zEq zRfP z0 z) : zPr zRfP z0 (fX9_draftAdvert_83 N K60 x0 x1 x2 x3 z) := by
  unfold fX9_draftAdvert_83
  exact zp_l (fun v1 => hK60 _ _ _ _ _ h)
theorem pX9_draftAdvert_60b {z0 z : St} {N : Nat} {K60 : Nat → Nat → Int32 → Int32 → St → Option (Int32 × St)} {x0 : Nat} {x1 : Nat} {x2 : Int32} {x3 : Int32} (hK60 : ∀ a0 a1 a2 a3 a4, zEq zRfP z0 a4 → zPr zRfP z0 (K60 a0 a1 a2 a3 a4)) (h : zEq zRfP z0 z) : zPr zRfP z0 (fX9_draftAdvert_60b N K60 x0 x1 x2 x3 z) := by
  unfold fX9_draftAdvert_60b
  exact zp_i (zp_s h) (zp_c (pX1_portOn  h) (fun r2 z3 h1 => zp_o (pX9_draftAdvert_83 hK60 h1) (fun a7 => zp_c (pX9_draftFriends  h1) (fun _ z9 h2 => pX9_draftAdvert_83 hK60 h2))))
theorem pX9_draftAdvert_60 {z0 : St} {N : Nat} : ∀ (n : Nat) (y0 : Nat) (y1 : Nat) (y2 : Int32) (y3 : Int32) (z : St), zEq zRfP z0 z → zPr zRfP z0 (fX9_draftAdvert_60 N n y0 y1 y2 y3 z) := by
  intro n
  induction n with
  | zero => intro y0 y1 y2 y3 z h; exact zp_n
  | succ n ih => intro y0 y1 y2 y3 z h; exact pX9_draftAdvert_60b  (fun _ _ _ _ _ h => ih _ _ _ _ _ h) h
theorem pX9_draftAdvert_10b {z0 z : St} {N : Nat} {K10 : Nat → Nat → Int32 → Int32 → St → Option (Int32 × St)} {x0 : Nat} {x1 : Nat} {x2 : Int32} {x3 : Int32} (hK10 : ∀ a0 a1 a2 a3 a4, zEq zRfP z0 a4 → zPr zRfP z0 (K10 a0 a1 a2 a3 a4)) (h : zEq zRfP z0 z) : zPr zRfP z0 (fX9_draftAdvert_10b N K10 x0 x1 x2 x3 z) := by
  unfold fX9_draftAdvert_10b
  exact zp_i (pX9_draftAdvert_60  _ _ _ _ _ _ h) (zp_c (pX1_portOn  h) (fun r2 z3 h1 => zp_o (pX9_draftAdvert_52 hK10 h1) (fun a7 => zp_l (fun y8 => zp_d (fun a9 => zp_i (pX9_draftAdvert_52 hK10 h1) (zp_l (fun y11 => zp_d (fun a12 => zp_c (pX0_addToDraft  h1) (fun _ z14 h2 => pX9_draftAdvert_52 hK10 h2)))))))))
theorem pX9_draftAdvert_10 {z0 : St} {N : Nat} : ∀ (n : Nat) (y0 : Nat) (y1 : Nat) (y2 : Int32) (y3 : Int32) (z : St), zEq zRfP z0 z → zPr zRfP z0 (fX9_draftAdvert_10 N n y0 y1 y2 y3 z) := by
  intro n
  induction n with
  | zero => intro y0 y1 y2 y3 z h; exact zp_n
  | succ n ih => intro y0 y1 y2 y3 z h; exact pX9_draftAdvert_10b  (fun _ _ _ _ _ h => ih _ _ _ _ _ h) h
theorem pX9_draftAdvert {z0 z : St} {N : Nat} {x0 : Nat} {x1 : Nat} {x2 : Int32} (h : zEq zRfP z0 z) : zPr zRfP z0 (fX9_draftAdvert N x0 x1 x2 z) := by
  unfold fX9_draftAdvert
  exact zp_l (fun y1 => zp_d (fun a2 => zp_lI h rfl (fun z3 h1 => pX9_draftAdvert_10  _ _ _ _ _ _ h1)))
theorem pX11_underWay {z0 z : St} {N : Nat} {x0 : Nat} (h : zEq zRfP z0 z) : zPr zRfP z0 (fX11_underWay N x0 z) := by
  unfold fX11_underWay
  exact zp_s h
theorem pX11_time {z0 z : St} {N : Nat} {x0 : Nat} (h : zEq zRfP z0 z) : zPr zRfP z0 (fX11_time N x0 z) := by
  unfold fX11_time
  exact zp_s h
theorem pX11_calmBound_4b {z0 z : St} {N : Nat} {K4 : Nat → Int32 → Int32 → St → Option (Int32 × St)} {x0 : Nat} {x1 : Int32} {x2 : Int32} (hK4 : ∀ a0 a1 a2 a3, zEq zRfP z0 a3 → zPr zRfP z0 (K4 a0 a1 a2 a3)) (h : zEq zRfP z0 z) : zPr zRfP z0 (fX11_calmBound_4b N K4 x0 x1 x2 z) := by
  unfold fX11_calmBound_4b
  exact zp_i (zp_s h) (zp_k (zp_l (fun y3 => zp_d (fun a4 => zp_l (fun v5 => zp_l (fun v6 => hK4 _ _ _ _ h))))))
theorem pX11_calmBound_4 {z0 : St} {N : Nat} : ∀ (n : Nat) (y0 : Nat) (y1 : Int32) (y2 : Int32) (z : St), zEq zRfP z0 z → zPr zRfP z0 (fX11_calmBound_4 N n y0 y1 y2 z) := by
  intro n
  induction n with
  | zero => intro y0 y1 y2 z h; exact zp_n
  | succ n ih => intro y0 y1 y2 z h; exact pX11_calmBound_4b  (fun _ _ _ _ h => ih _ _ _ _ h) h
theorem pX11_calmBound {z0 z : St} {N : Nat} {x0 : Nat} (h : zEq zRfP z0 z) : zPr zRfP z0 (fX11_calmBound N x0 z) := by
  unfold fX11_calmBound
  exact pX11_calmBound_4  _ _ _ _ _ h
theorem pX11_bound {z0 z : St} {N : Nat} {x0 : Nat} (h : zEq zRfP z0 z) : zPr zRfP z0 (fX11_bound N x0 z) := by
  unfold fX11_bound
  exact zp_c (pX11_calmBound  h) (fun r1 z2 h1 => zp_s h1)
theorem pX11_strays {z0 z : St} {N : Nat} {x0 : Nat} (h : zEq zRfP z0 z) : zPr zRfP z0 (fX11_strays N x0 z) := by
  unfold fX11_strays
  exact zp_s h
theorem pX11_isNetAddress {z0 z : St} {N : Nat} {x0 : Nat} {x1 : Int32} (h : zEq zRfP z0 z) : zPr zRfP z0 (fX11_isNetAddress N x0 x1 z) := by
  unfold fX11_isNetAddress
  exact zp_i (zp_s h) (zp_i (zp_l (fun v3 => zp_i (zp_s h) (zp_i (zp_s h) (zp_s h)))) (zp_s h))
theorem pX11_portOfAddress_25 {z0 z : St} {N : Nat} {x1 : Int32} {s0 : Option Nat} (h : zEq zRfP z0 z) : zPr zRfP z0 (fX11_portOfAddress_25 N x1 s0 z) := by
  unfold fX11_portOfAddress_25
  exact zp_o (zp_s h) (fun a2 => zp_l (fun v3 => zp_i (zp_s h) (zp_k (zp_l (fun y6 => zp_s h)))))
theorem pX11_portOfAddress {z0 z : St} {N : Nat} {x0 : Nat} {x1 : Int32} (h : zEq zRfP z0 z) : zPr zRfP z0 (fX11_portOfAddress N x0 x1 z) := by
  unfold fX11_portOfAddress
  exact zp_c (pX11_isNetAddress  h) (fun r1 z2 h1 => zp_i (pX11_portOfAddress_25  h1) (zp_k (zp_l (fun y7 => pX11_portOfAddress_25  h1))))
theorem pX11_joinedWith_122 {z0 z : St} {N : Nat} {K60 : Nat → Nat → Int32 → Int32 → St → Option (Int32 × St)} {K70 : Nat → Nat → Int32 → Int32 → Int32 → St → Option (Int32 × St)} {x0 : Nat} {x4 : Nat} {x5 : Int32} {x6 : Int32} {x7 : Int32} (hK60 : ∀ a0 a1 a2 a3 a4, zEq zRfP z0 a4 → zPr zRfP z0 (K60 a0 a1 a2 a3 a4)) (hK70 : ∀ a0 a1 a2 a3 a4 a5, zEq zRfP z0 a5 → zPr zRfP z0 (K70 a0 a1 a2 a3 a4 a5)) (h : zEq zRfP z0 z) : zPr zRfP z0 (fX11_joinedWith_122 N K60 K70 x0 x4 x5 x6 x7 z) := by
  unfold fX11_joinedWith_122
  exact zp_l (fun v1 => hK70 _ _ _ _ _ _ h)
theorem pX11_joinedWith_70b {z0 z : St} {N : Nat} {K60 : Nat → Nat → Int32 → Int32 → St → Option (Int32 × St)} {K70 : Nat → Nat → Int32 → Int32 → Int32 → St → Option (Int32 × St)} {x0 : Nat} {x4 : Nat} {x5 : Int32} {x6 : Int32} {x7 : Int32} (hK60 : ∀ a0 a1 a2 a3 a4, zEq zRfP z0 a4 → zPr zRfP z0 (K60 a0 a1 a2 a3 a4)) (hK70 : ∀ a0 a1 a2 a3 a4 a5, zEq zRfP z0 a5 → zPr zRfP z0 (K70 a0 a1 a2 a3 a4 a5)) (h : zEq zRfP z0 z) : zPr zRfP z0 (fX11_joinedWith_70b N K60 K70 x0 x4 x5 x6 x7 z) := by
  unfold fX11_joinedWith_70b
  exact zp_i (zp_l (fun v2 => hK60 _ _ _ _ _ h)) (zp_k (zp_l (fun y4 => zp_d (fun a5 => zp_i (zp_k (zp_l (fun y8 => zp_d (fun a9 => zp_c (pX1_netsUp  h) (fun r10 z11 h1 => zp_i (pX11_joinedWith_122 hK60 hK70 h1) (zp_l (fun v15 => pX11_joinedWith_122 hK60 hK70 h1))))))) (pX11_joinedWith_122 hK60 hK70 h)))))
theorem pX11_joinedWith_70 {z0 : St} {N : Nat} {K60 : Nat → Nat → Int32 → Int32 → St → Option (Int32 × St)} (hK60 : ∀ a0 a1 a2 a3 a4, zEq zRfP z0 a4 → zPr zRfP z0 (K60 a0 a1 a2 a3 a4)) : ∀ (n : Nat) (y0 : Nat) (y1 : Nat) (y2 : Int32) (y3 : Int32) (y4 : Int32) (z : St), zEq zRfP z0 z → zPr zRfP z0 (fX11_joinedWith_70 N K60 n y0 y1 y2 y3 y4 z) := by
  intro n
  induction n with
  | zero => intro y0 y1 y2 y3 y4 z h; exact zp_n
  | succ n ih => intro y0 y1 y2 y3 y4 z h; exact pX11_joinedWith_70b hK60 (fun _ _ _ _ _ _ h => ih _ _ _ _ _ _ h) h
theorem pX11_joinedWith_60b {z0 z : St} {N : Nat} {K60 : Nat → Nat → Int32 → Int32 → St → Option (Int32 × St)} {x0 : Nat} {x4 : Nat} {x5 : Int32} {x6 : Int32} (hK60 : ∀ a0 a1 a2 a3 a4, zEq zRfP z0 a4 → zPr zRfP z0 (K60 a0 a1 a2 a3 a4)) (h : zEq zRfP z0 z) : zPr zRfP z0 (fX11_joinedWith_60b N K60 x0 x4 x5 x6 z) := by
  unfold fX11_joinedWith_60b
  exact zp_i (zp_l (fun y2 => zp_d (fun a3 => zp_i (zp_s h) (zp_s h)))) (pX11_joinedWith_70 hK60 _ _ _ _ _ _ _ h)
theorem pX11_joinedWith_60 {z0 : St} {N : Nat} : ∀ (n : Nat) (y0 : Nat) (y1 : Nat) (y2 : Int32) (y3 : Int32) (z : St), zEq zRfP z0 z → zPr zRfP z0 (fX11_joinedWith_60 N n y0 y1 y2 y3 z) := by
  intro n
  induction n with
  | zero => intro y0 y1 y2 y3 z h; exact zp_n
  | succ n ih => intro y0 y1 y2 y3 z h; exact pX11_joinedWith_60b  (fun _ _ _ _ _ h => ih _ _ _ _ _ h) h
theorem pX11_joinedWith {z0 z : St} {N : Nat} {x0 : Nat} {x1 : Nat} {x2 : Int32} (h : zEq zRfP z0 z) : zPr zRfP z0 (fX11_joinedWith N x0 x1 x2 z) := by
  unfold fX11_joinedWith
  exact zp_k (zp_l (fun y2 => zp_c (pX11_portOfAddress  h) (fun r3 z4 h1 => zp_o (zp_s h1) (fun a8 => zp_o (zp_s h1) (fun a10 => zp_l (fun y11 => zp_d (fun a12 => zp_i (zp_s h1) (zp_l (fun y14 => zp_d (fun a15 => zp_i (zp_l (fun y17 => zp_d (fun a18 => zp_l (fun v19 => pX11_joinedWith_60  _ _ _ _ _ _ h1)))) (zp_s h1)))))))))))
theorem pX11_stuckEnds_85 {z0 z : St} {N : Nat} {K4 : Nat → Nat → Int32 → Int32 → St → Option (Int32 × St)} {x0 : Nat} {x1 : Nat} {x2 : Int32} {x3 : Int32} (hK4 : ∀ a0 a1 a2 a3 a4, zEq zRfP z0 a4 → zPr zRfP z0 (K4 a0 a1 a2 a3 a4)) (h : zEq zRfP z0 z) : zPr zRfP z0 (fX11_stuckEnds_85 N K4 x0 x1 x2 x3 z) := by
  unfold fX11_stuckEnds_85
  exact zp_l (fun v1 => hK4 _ _ _ _ _ h)
theorem pX11_stuckEnds_4b {z0 z : St} {N : Nat} {K4 : Nat → Nat → Int32 → Int32 → St → Option (Int32 × St)} {x0 : Nat} {x1 : Nat} {x2 : Int32} {x3 : Int32} (hK4 : ∀ a0 a1 a2 a3 a4, zEq zRfP z0 a4 → zPr zRfP z0 (K4 a0 a1 a2 a3 a4)) (h : zEq zRfP z0 z) : zPr zRfP z0 (fX11_stuckEnds_4b N K4 x0 x1 x2 x3 z) := by
  unfold fX11_stuckEnds_4b
  exact zp_i (zp_s h) (zp_k (zp_l (fun y3 => zp_d (fun a4 => zp_i (pX11_stuckEnds_85 hK4 h) (zp_l (fun y6 => zp_d (fun a7 => zp_i (pX11_stuckEnds_85 hK4 h) (zp_l (fun y9 => zp_d (fun a10 => zp_i (zp_l (fun y12 => zp_d (fun a13 => zp_l (fun y14 => zp_d (fun a15 => zp_i (pX11_stuckEnds_85 hK4 h) (zp_c (pX11_joinedWith  h) (fun r17 z18 h1 => zp_i (pX11_stuckEnds_85 hK4 h1) (zp_l (fun v22 => pX11_stuckEnds_85 hK4 h1))))))))) (pX11_stuckEnds_85 hK4 h)))))))))))
theorem pX11_stuckEnds_4 {z0 : St} {N : Nat} : ∀ (n : Nat) (y0 : Nat) (y1 : Nat) (y2 : Int32) (y3 : Int32) (z : St), zEq zRfP z0 z → zPr zRfP z0 (fX11_stuckEnds_4 N n y0 y1 y2 y3 z) := by
  intro n
  induction n with
  | zero => intro y0 y1 y2 y3 z h; exact zp_n
  | succ n ih => intro y0 y1 y2 y3 z h; exact pX11_stuckEnds_4b  (fun _ _ _ _ _ h => ih _ _ _ _ _ h) h
theorem pX11_stuckEnds {z0 z : St} {N : Nat} {x0 : Nat} {x1 : Nat} (h : zEq zRfP z0 z) : zPr zRfP z0 (fX11_stuckEnds N x0 x1 z) := by
  unfold fX11_stuckEnds
  exact pX11_stuckEnds_4  _ _ _ _ _ _ h
theorem pX11_spreadReach_120 {z0 z : St} {N : Nat} {K4 : Nat → Nat → Int32 → Int32 → St → Option (Int32 × St)} {K40 : Nat → Nat → Int32 → Int32 → Nat → Int32 → Int32 → St → Option (Int32 × St)} {x0 : Nat} {x1 : Nat} {x2 : Int32} {x3 : Int32} {x4 : Nat} {x5 : Int32} {x6 : Int32} (hK4 : ∀ a0 a1 a2 a3 a4, zEq zRfP z0 a4 → zPr zRfP z0 (K4 a0 a1 a2 a3 a4)) (hK40 : ∀ a0 a1 a2 a3 a4 a5 a6 a7, zEq zRfP z0 a7 → zPr zRfP z0 (K40 a0 a1 a2 a3 a4 a5 a6 a7)) (h : zEq zRfP z0 z) : zPr zRfP z0 (fX11_spreadReach_120 N K4 K40 x0 x1 x2 x3 x4 x5 x6 z) := by
  unfold fX11_spreadReach_120
  exact zp_l (fun v1 => hK40 _ _ _ _ _ _ _ _ h)
theorem pX11_spreadReach_126 {z0 z : St} {N : Nat} {K4 : Nat → Nat → Int32 → Int32 → St → Option (Int32 × St)} {x0 : Nat} {x1 : Nat} {x2 : Int32} {x3 : Int32} (hK4 : ∀ a0 a1 a2 a3 a4, zEq zRfP z0 a4 → zPr zRfP z0 (K4 a0 a1 a2 a3 a4)) (h : zEq zRfP z0 z) : zPr zRfP z0 (fX11_spreadReach_126 N K4 x0 x1 x2 x3 z) := by
  unfold fX11_spreadReach_126
  exact zp_l (fun v1 => hK4 _ _ _ _ _ h)
theorem pX11_spreadReach_40b {z0 z : St} {N : Nat} {K4 : Nat → Nat → Int32 → Int32 → St → Option (Int32 × St)} {K40 : Nat → Nat → Int32 → Int32 → Nat → Int32 → Int32 → St → Option (Int32 × St)} {x0 : Nat} {x1 : Nat} {x2 : Int32} {x3 : Int32} {x4 : Nat} {x5 : Int32} {x6 : Int32} (hK4 : ∀ a0 a1 a2 a3 a4, zEq zRfP z0 a4 → zPr zRfP z0 (K4 a0 a1 a2 a3 a4)) (hK40 : ∀ a0 a1 a2 a3 a4 a5 a6 a7, zEq zRfP z0 a7 → zPr zRfP z0 (K40 a0 a1 a2 a3 a4 a5 a6 a7)) (h : zEq zRfP z0 z) : zPr zRfP z0 (fX11_spreadReach_40b N K4 K40 x0 x1 x2 x3 x4 x5 x6 z) := by
  unfold fX11_spreadReach_40b
  exact zp_l (fun y1 => zp_d (fun a2 => zp_i (pX11_spreadReach_126 hK4 h) (zp_l (fun y4 => zp_d (fun a5 => zp_i (pX11_spreadReach_126 hK4 h) (zp_l (fun y7 => zp_d (fun a8 => zp_k (zp_l (fun y10 => zp_d (fun a11 => zp_l (fun y12 => zp_d (fun a13 => zp_i (pX11_spreadReach_120 hK4 hK40 h) (zp_k (zp_i (zp_k (zp_lA h rfl (fun z18 h1 => pX11_spreadReach_120 hK4 hK40 h1))) (pX11_spreadReach_120 hK4 hK40 h))))))))))))))))
theorem pX11_spreadReach_40 {z0 : St} {N : Nat} {K4 : Nat → Nat → Int32 → Int32 → St → Option (Int32 × St)} (hK4 : ∀ a0 a1 a2 a3 a4, zEq zRfP z0 a4 → zPr zRfP z0 (K4 a0 a1 a2 a3 a4)) : ∀ (n : Nat) (y0 : Nat) (y1 : Nat) (y2 : Int32) (y3 : Int32) (y4 : Nat) (y5 : Int32) (y6 : Int32) (z : St), zEq zRfP z0 z → zPr zRfP z0 (fX11_spreadReach_40 N K4 n y0 y1 y2 y3 y4 y5 y6 z) := by
  intro n
  induction n with
  | zero => intro y0 y1 y2 y3 y4 y5 y6 z h; exact zp_n
  | succ n ih => intro y0 y1 y2 y3 y4 y5 y6 z h; exact pX11_spreadReach_40b hK4 (fun _ _ _ _ _ _ _ _ h => ih _ _ _ _ _ _ _ _ h) h
theorem pX11_spreadReach_4b {z0 z : St} {N : Nat} {K4 : Nat → Nat → Int32 → Int32 → St → Option (Int32 × St)} {x0 : Nat} {x1 : Nat} {x2 : Int32} {x3 : Int32} (hK4 : ∀ a0 a1 a2 a3 a4, zEq zRfP z0 a4 → zPr zRfP z0 (K4 a0 a1 a2 a3 a4)) (h : zEq zRfP z0 z) : zPr zRfP z0 (fX11_spreadReach_4b N K4 x0 x1 x2 x3 z) := by
  unfold fX11_spreadReach_4b
  exact zp_i (zp_q (zp_s h)) (zp_k (zp_l (fun y4 => zp_k (zp_d (fun a6 => zp_l (fun v7 => pX11_spreadReach_40 hK4 _ _ _ _ _ _ _ _ _ h))))))
theorem pX11_spreadReach_4 {z0 : St} {N : Nat} : ∀ (n : Nat) (y0 : Nat) (y1 : Nat) (y2 : Int32) (y3 : Int32) (z : St), zEq zRfP z0 z → zPr zRfP z0 (fX11_spreadReach_4 N n y0 y1 y2 y3 z) := by
  intro n
  induction n with
  | zero => intro y0 y1 y2 y3 z h; exact zp_n
  | succ n ih => intro y0 y1 y2 y3 z h; exact pX11_spreadReach_4b  (fun _ _ _ _ _ h => ih _ _ _ _ _ h) h
theorem pX11_spreadReach {z0 z : St} {N : Nat} {x0 : Nat} {x1 : Nat} (h : zEq zRfP z0 z) : zPr zRfP z0 (fX11_spreadReach N x0 x1 z) := by
  unfold fX11_spreadReach
  exact pX11_spreadReach_4  _ _ _ _ _ _ h
theorem pX11_costFromAbove_126 {z0 z : St} {N : Nat} {K69 : Nat → Nat → Int32 → Int32 → St → Option (Int32 × St)} {K87 : Nat → Nat → Int32 → Int32 → Int32 → St → Option (Int32 × St)} {x0 : Nat} {x2 : Nat} {x4 : Int32} {x5 : Int32} {x6 : Int32} (hK69 : ∀ a0 a1 a2 a3 a4, zEq zRfP z0 a4 → zPr zRfP z0 (K69 a0 a1 a2 a3 a4)) (hK87 : ∀ a0 a1 a2 a3 a4 a5, zEq zRfP z0 a5 → zPr zRfP z0 (K87 a0 a1 a2 a3 a4 a5)) (h : zEq zRfP z0 z) : zPr zRfP z0 (fX11_costFromAbove_126 N K69 K87 x0 x2 x4 x5 x6 z) := by
  unfold fX11_costFromAbove_126
  exact zp_l (fun v1 => hK87 _ _ _ _ _ _ h)
theorem pX11_costFromAbove_87b {z0 z : St} {N : Nat} {K69 : Nat → Nat → Int32 → Int32 → St → Option (Int32 × St)} {K87 : Nat → Nat → Int32 → Int32 → Int32 → St → Option (Int32 × St)} {x0 : Nat} {x2 : Nat} {x4 : Int32} {x5 : Int32} {x6 : Int32} (hK69 : ∀ a0 a1 a2 a3 a4, zEq zRfP z0 a4 → zPr zRfP z0 (K69 a0 a1 a2 a3 a4)) (hK87 : ∀ a0 a1 a2 a3 a4 a5, zEq zRfP z0 a5 → zPr zRfP z0 (K87 a0 a1 a2 a3 a4 a5)) (h : zEq zRfP z0 z) : zPr zRfP z0 (fX11_costFromAbove_87b N K69 K87 x0 x2 x4 x5 x6 z) := by
  unfold fX11_costFromAbove_87b
  exact zp_i (zp_l (fun v2 => hK69 _ _ _ _ _ h)) (zp_k (zp_i (pX11_costFromAbove_126 hK69 hK87 h) (zp_k (zp_l (fun y6 => zp_d (fun a7 => zp_c (pX11_spreadReach  h) (fun r8 z9 h1 => zp_i (pX11_costFromAbove_126 hK69 hK87 h1) (pX11_costFromAbove_126 hK69 hK87 h1))))))))
theorem pX11_costFromAbove_87 {z0 : St} {N : Nat} {K69 : Nat → Nat → Int32 → Int32 → St → Option (Int32 × St)} (hK69 : ∀ a0 a1 a2 a3 a4, zEq zRfP z0 a4 → zPr zRfP z0 (K69 a0 a1 a2 a3 a4)) : ∀ (n : Nat) (y0 : Nat) (y1 : Nat) (y2 : Int32) (y3 : Int32) (y4 : Int32) (z : St), zEq zRfP z0 z → zPr zRfP z0 (fX11_costFromAbove_87 N K69 n y0 y1 y2 y3 y4 z) := by
  intro n
  induction n with
  | zero => intro y0 y1 y2 y3 y4 z h; exact zp_n
  | succ n ih => intro y0 y1 y2 y3 y4 z h; exact pX11_costFromAbove_87b hK69 (fun _ _ _ _ _ _ h => ih _ _ _ _ _ _ h) h
theorem pX11_costFromAbove_209 {z0 z : St} {N : Nat} {K146 : Nat → Nat → Int32 → Int32 → St → Option (Int32 × St)} {x0 : Nat} {x2 : Nat} {x5 : Int32} {x6 : Int32} (hK146 : ∀ a0 a1 a2 a3 a4, zEq zRfP z0 a4 → zPr zRfP z0 (K146 a0 a1 a2 a3 a4)) (h : zEq zRfP z0 z) : zPr zRfP z0 (fX11_costFromAbove_209 N K146 x0 x2 x5 x6 z) := by
  unfold fX11_costFromAbove_209
  exact zp_l (fun v1 => hK146 _ _ _ _ _ h)
theorem pX11_costFromAbove_146b {z0 z : St} {N : Nat} {K146 : Nat → Nat → Int32 → Int32 → St → Option (Int32 × St)} {x0 : Nat} {x2 : Nat} {x5 : Int32} {x6 : Int32} (hK146 : ∀ a0 a1 a2 a3 a4, zEq zRfP z0 a4 → zPr zRfP z0 (K146 a0 a1 a2 a3 a4)) (h : zEq zRfP z0 z) : zPr zRfP z0 (fX11_costFromAbove_146b N K146 x0 x2 x5 x6 z) := by
  unfold fX11_costFromAbove_146b
  exact zp_i (zp_i (zp_s h) (zp_s h)) (zp_k (zp_l (fun y4 => zp_d (fun a5 => zp_l (fun y6 => zp_d (fun a7 => zp_k (zp_i (pX11_costFromAbove_209 hK146 h) (zp_l (fun y10 => zp_d (fun a11 => zp_k (zp_l (fun v13 => pX11_costFromAbove_209 hK146 h))))))))))))
theorem pX11_costFromAbove_146 {z0 : St} {N : Nat} : ∀ (n : Nat) (y0 : Nat) (y1 : Nat) (y2 : Int32) (y3 : Int32) (z : St), zEq zRfP z0 z → zPr zRfP z0 (fX11_costFromAbove_146 N n y0 y1 y2 y3 z) := by
  intro n
  induction n with
  | zero => intro y0 y1 y2 y3 z h; exact zp_n
  | succ n ih => intro y0 y1 y2 y3 z h; exact pX11_costFromAbove_146b  (fun _ _ _ _ _ h => ih _ _ _ _ _ h) h
theorem pX11_costFromAbove_138 {z0 z : St} {N : Nat} {x0 : Nat} {x2 : Nat} (h : zEq zRfP z0 z) : zPr zRfP z0 (fX11_costFromAbove_138 N x0 x2 z) := by
  unfold fX11_costFromAbove_138
  exact pX11_costFromAbove_146  _ _ _ _ _ _ h
theorem pX11_costFromAbove_69b {z0 z : St} {N : Nat} {K69 : Nat → Nat → Int32 → Int32 → St → Option (Int32 × St)} {x0 : Nat} {x2 : Nat} {x4 : Int32} {x5 : Int32} (hK69 : ∀ a0 a1 a2 a3 a4, zEq zRfP z0 a4 → zPr zRfP z0 (K69 a0 a1 a2 a3 a4)) (h : zEq zRfP z0 z) : zPr zRfP z0 (fX11_costFromAbove_69b N K69 x0 x2 x4 x5 z) := by
  unfold fX11_costFromAbove_69b
  exact zp_i (pX11_costFromAbove_138  h) (zp_i (pX11_costFromAbove_138  h) (pX11_costFromAbove_87 hK69 _ _ _ _ _ _ _ h))
theorem pX11_costFromAbove_69 {z0 : St} {N : Nat} : ∀ (n : Nat) (y0 : Nat) (y1 : Nat) (y2 : Int32) (y3 : Int32) (z : St), zEq zRfP z0 z → zPr zRfP z0 (fX11_costFromAbove_69 N n y0 y1 y2 y3 z) := by
  intro n
  induction n with
  | zero => intro y0 y1 y2 y3 z h; exact zp_n
  | succ n ih => intro y0 y1 y2 y3 z h; exact pX11_costFromAbove_69b  (fun _ _ _ _ _ h => ih _ _ _ _ _ h) h
theorem pX11_costFromAbove_30b {z0 z : St} {N : Nat} {K30 : Nat → Nat → Nat → Int32 → St → Option (Int32 × St)} {x0 : Nat} {x1 : Nat} {x2 : Nat} {x4 : Int32} (hK30 : ∀ a0 a1 a2 a3 a4, zEq zRfP z0 a4 → zPr zRfP z0 (K30 a0 a1 a2 a3 a4)) (h : zEq zRfP z0 z) : zPr zRfP z0 (fX11_costFromAbove_30b N K30 x0 x1 x2 x4 z) := by
  unfold fX11_costFromAbove_30b
  exact zp_i (zp_k (zp_lA h rfl (fun z3 h1 => pX11_costFromAbove_69  _ _ _ _ _ _ h1))) (zp_k (zp_lA h rfl (fun z5 h2 => zp_l (fun v6 => hK30 _ _ _ _ _ h2))))
theorem pX11_costFromAbove_30 {z0 : St} {N : Nat} : ∀ (n : Nat) (y0 : Nat) (y1 : Nat) (y2 : Nat) (y3 : Int32) (z : St), zEq zRfP z0 z → zPr zRfP z0 (fX11_costFromAbove_30 N n y0 y1 y2 y3 z) := by
  intro n
  induction n with
  | zero => intro y0 y1 y2 y3 z h; exact zp_n
  | succ n ih => intro y0 y1 y2 y3 z h; exact pX11_costFromAbove_30b  (fun _ _ _ _ _ h => ih _ _ _ _ _ h) h
theorem pX11_costFromAbove {z0 z : St} {N : Nat} {x0 : Nat} {x1 : Nat} {x2 : Nat} (h : zEq zRfP z0 z) : zPr zRfP z0 (fX11_costFromAbove N x0 x1 x2 z) := by
  unfold fX11_costFromAbove
  exact zp_i (zp_c (pX1_portOn  h) (fun r2 z3 h1 => zp_o (pX11_costFromAbove_30  _ _ _ _ _ _ h1) (fun a7 => zp_s h1))) (zp_s h)
theorem pX11_wrongWays_41 {z0 z : St} {N : Nat} {K4 : Nat → Nat → Int32 → Int32 → St → Option (Int32 × St)} {x0 : Nat} {x1 : Nat} {x2 : Int32} {x3 : Int32} (hK4 : ∀ a0 a1 a2 a3 a4, zEq zRfP z0 a4 → zPr zRfP z0 (K4 a0 a1 a2 a3 a4)) (h : zEq zRfP z0 z) : zPr zRfP z0 (fX11_wrongWays_41 N K4 x0 x1 x2 x3 z) := by
  unfold fX11_wrongWays_41
  exact zp_l (fun v1 => hK4 _ _ _ _ _ h)
theorem pX11_wrongWays_4b {z0 z : St} {N : Nat} {K4 : Nat → Nat → Int32 → Int32 → St → Option (Int32 × St)} {x0 : Nat} {x1 : Nat} {x2 : Int32} {x3 : Int32} (hK4 : ∀ a0 a1 a2 a3 a4, zEq zRfP z0 a4 → zPr zRfP z0 (K4 a0 a1 a2 a3 a4)) (h : zEq zRfP z0 z) : zPr zRfP z0 (fX11_wrongWays_4b N K4 x0 x1 x2 x3 z) := by
  unfold fX11_wrongWays_4b
  exact zp_i (zp_s h) (zp_l (fun y2 => zp_d (fun a3 => zp_l (fun y4 => zp_d (fun a5 => zp_k (zp_k (zp_l (fun y8 => zp_d (fun a9 => zp_c (pX11_costFromAbove  h) (fun r10 z11 h1 => zp_i (pX11_wrongWays_41 hK4 h1) (zp_l (fun v15 => pX11_wrongWays_41 hK4 h1))))))))))))
theorem pX11_wrongWays_4 {z0 : St} {N : Nat} : ∀ (n : Nat) (y0 : Nat) (y1 : Nat) (y2 : Int32) (y3 : Int32) (z : St), zEq zRfP z0 z → zPr zRfP z0 (fX11_wrongWays_4 N n y0 y1 y2 y3 z) := by
  intro n
  induction n with
  | zero => intro y0 y1 y2 y3 z h; exact zp_n
  | succ n ih => intro y0 y1 y2 y3 z h; exact pX11_wrongWays_4b  (fun _ _ _ _ _ h => ih _ _ _ _ _ h) h
theorem pX11_wrongWays {z0 z : St} {N : Nat} {x0 : Nat} {x1 : Nat} (h : zEq zRfP z0 z) : zPr zRfP z0 (fX11_wrongWays N x0 x1 z) := by
  unfold fX11_wrongWays
  exact pX11_wrongWays_4  _ _ _ _ _ _ h
theorem pX11_overdue_63 {z0 z : St} {N : Nat} {K22 : Nat → Int32 → Int32 → St → Option (Int32 × St)} {x0 : Nat} {x1 : Int32} {x2 : Int32} (hK22 : ∀ a0 a1 a2 a3, zEq zRfP z0 a3 → zPr zRfP z0 (K22 a0 a1 a2 a3)) (h : zEq zRfP z0 z) : zPr zRfP z0 (fX11_overdue_63 N K22 x0 x1 x2 z) := by
  unfold fX11_overdue_63
  exact zp_l (fun v1 => hK22 _ _ _ _ h)
theorem pX11_overdue_22b {z0 z : St} {N : Nat} {K22 : Nat → Int32 → Int32 → St → Option (Int32 × St)} {x0 : Nat} {x1 : Int32} {x2 : Int32} (hK22 : ∀ a0 a1 a2 a3, zEq zRfP z0 a3 → zPr zRfP z0 (K22 a0 a1 a2 a3)) (h : zEq zRfP z0 z) : zPr zRfP z0 (fX11_overdue_22b N K22 x0 x1 x2 z) := by
  unfold fX11_overdue_22b
  exact zp_i (zp_s h) (zp_k (zp_l (fun y3 => zp_d (fun a4 => zp_i (zp_c (pX11_stuckEnds  h) (fun r6 z7 h1 => zp_l (fun v10 => pX11_overdue_63 hK22 h1))) (zp_c (pX11_wrongWays  h) (fun r11 z12 h2 => zp_l (fun v15 => pX11_overdue_63 hK22 h2)))))))
theorem pX11_overdue_22 {z0 : St} {N : Nat} : ∀ (n : Nat) (y0 : Nat) (y1 : Int32) (y2 : Int32) (z : St), zEq zRfP z0 z → zPr zRfP z0 (fX11_overdue_22 N n y0 y1 y2 z) := by
  intro n
  induction n with
  | zero => intro y0 y1 y2 z h; exact zp_n
  | succ n ih => intro y0 y1 y2 z h; exact pX11_overdue_22b  (fun _ _ _ _ h => ih _ _ _ _ h) h
theorem pX11_overdue {z0 z : St} {N : Nat} {x0 : Nat} (h : zEq zRfP z0 z) : zPr zRfP z0 (fX11_overdue N x0 z) := by
  unfold fX11_overdue
  exact zp_c (pX11_calmBound  h) (fun r1 z2 h1 => zp_i (pX11_overdue_22  _ _ _ _ _ h1) (zp_s h1))
theorem pX11_boxOf {z0 z : St} {N : Nat} {x0 : Nat} {x1 : Int32} (h : zEq zRfP z0 z) : zPr zRfP z0 (fX11_boxOf N x0 x1 z) := by
  unfold fX11_boxOf
  exact zp_i (zp_s h) (zp_i (zp_s h) (zp_k (zp_l (fun y4 => zp_s h))))
theorem pX11_hostOf_17 {z0 z : St} {N : Nat} (h : zEq zRfP z0 z) : zPr zRfP z0 (fX11_hostOf_17 N z) := by
  unfold fX11_hostOf_17
  exact zp_s h
theorem pX11_hostOf {z0 z : St} {N : Nat} {x0 : Nat} {x1 : Int32} (h : zEq zRfP z0 z) : zPr zRfP z0 (fX11_hostOf N x0 x1 z) := by
  unfold fX11_hostOf
  exact zp_c (pX11_boxOf  h) (fun r1 z2 h1 => zp_o (pX11_hostOf_17  h1) (fun a6 => zp_i (zp_s h1) (pX11_hostOf_17  h1)))
theorem pX11_routerOf_17 {z0 z : St} {N : Nat} (h : zEq zRfP z0 z) : zPr zRfP z0 (fX11_routerOf_17 N z) := by
  unfold fX11_routerOf_17
  exact zp_s h
theorem pX11_routerOf {z0 z : St} {N : Nat} {x0 : Nat} {x1 : Int32} (h : zEq zRfP z0 z) : zPr zRfP z0 (fX11_routerOf N x0 x1 z) := by
  unfold fX11_routerOf
  exact zp_c (pX11_boxOf  h) (fun r1 z2 h1 => zp_o (pX11_routerOf_17  h1) (fun a6 => zp_i (zp_s h1) (pX11_routerOf_17  h1)))
theorem pX11_netOf {z0 z : St} {N : Nat} {x0 : Nat} {x1 : Int32} (h : zEq zRfP z0 z) : zPr zRfP z0 (fX11_netOf N x0 x1 z) := by
  unfold fX11_netOf
  exact zp_i (zp_s h) (zp_i (zp_s h) (zp_k (zp_l (fun y4 => zp_s h))))
theorem pX11_doorOf_20 {z0 z : St} {N : Nat} (h : zEq zRfP z0 z) : zPr zRfP z0 (fX11_doorOf_20 N z) := by
  unfold fX11_doorOf_20
  exact zp_s h
theorem pX11_doorOf {z0 z : St} {N : Nat} {x0 : Nat} {x1 : Int32} {x2 : Int32} (h : zEq zRfP z0 z) : zPr zRfP z0 (fX11_doorOf N x0 x1 x2 z) := by
  unfold fX11_doorOf
  exact zp_c (pX11_hostOf  h) (fun r1 z2 h1 => zp_o (pX11_doorOf_20  h1) (fun a6 => zp_i (pX11_doorOf_20  h1) (zp_i (zp_k (zp_l (fun y10 => zp_s h1))) (pX11_doorOf_20  h1))))
theorem pX11_keyOf {z0 z : St} {N : Nat} {x0 : Nat} {x1 : Int32} (h : zEq zRfP z0 z) : zPr zRfP z0 (fX11_keyOf N x0 x1 z) := by
  unfold fX11_keyOf
  exact zp_s h
theorem pX11_firstNumber {z0 z : St} {N : Nat} {x0 : Nat} {x1 : Nat} (h : zEq zRfP z0 z) : zPr zRfP z0 (fX11_firstNumber N x0 x1 z) := by
  unfold fX11_firstNumber
  exact zp_s h
theorem pX11_stir {z0 z : St} {N : Nat} {x0 : Nat} (h : zEq zRfP z0 z) : zPr zRfP z0 (fX11_stir N x0 z) := by
  unfold fX11_stir
  exact zp_lI h rfl (fun z1 h1 => zp_s h1)
theorem pX11_changeWorld {z0 z : St} {N : Nat} {x0 : Nat} (h : zEq zRfP z0 z) : zPr zRfP z0 (fX11_changeWorld N x0 z) := by
  unfold fX11_changeWorld
  exact zp_lI h rfl (fun z1 h1 => zp_c (pX11_stir  h1) (fun _ z3 h2 => zp_s h2))
theorem pX11_giveBack {z0 z : St} {N : Nat} {x0 : Nat} {x1 : Nat} (h : zEq zRfP z0 z) : zPr zRfP z0 (fX11_giveBack N x0 x1 z) := by
  unfold fX11_giveBack
  exact zp_l (fun y1 => zp_lR h rfl (fun z2 h1 => zp_lR h1 rfl (fun z3 h2 => zp_s h2)))
theorem pX11_hangIn_31 {z0 z : St} {N : Nat} {x0 : Nat} {x1 : Nat} {x2 : Int32} (h : zEq zRfP z0 z) : zPr zRfP z0 (fX11_hangIn_31 N x0 x1 x2 z) := by
  unfold fX11_hangIn_31
  exact zp_k (zp_lQ h rfl (fun z2 h1 => zp_s h1))
theorem pX11_hangIn {z0 z : St} {N : Nat} {x0 : Nat} {x1 : Nat} {x2 : Int32} (h : zEq zRfP z0 z) : zPr zRfP z0 (fX11_hangIn N x0 x1 x2 z) := by
  unfold fX11_hangIn
  exact zp_lR h rfl (fun z1 h1 => zp_k (zp_l (fun y3 => zp_o (zp_k (zp_lQ h1 rfl (fun z7 h2 => pX11_hangIn_31  h2))) (fun a5 => zp_lR h1 rfl (fun z8 h3 => pX11_hangIn_31  h3)))))
theorem pX11_loseAllOn_83 {z0 z : St} {N : Nat} {K2 : Nat → Int32 → Int32 → St → Option (Int32 × St)} {K33 : Nat → Int32 → Int32 → Option Nat → Int32 → St → Option (Int32 × St)} {x0 : Nat} {x1 : Int32} {x2 : Int32} {x4 : Int32} {x5 : Option Nat} (hK2 : ∀ a0 a1 a2 a3, zEq zRfP z0 a3 → zPr zRfP z0 (K2 a0 a1 a2 a3)) (hK33 : ∀ a0 a1 a2 a3 a4 a5, zEq zRfP z0 a5 → zPr zRfP z0 (K33 a0 a1 a2 a3 a4 a5)) (h : zEq zRfP z0 z) : zPr zRfP z0 (fX11_loseAllOn_83 N K2 K33 x0 x1 x2 x4 x5 z) := by
  unfold fX11_loseAllOn_83
  exact zp_l (fun v1 => hK33 _ _ _ _ _ _ h)
theorem pX11_loseAllOn_92 {z0 z : St} {N : Nat} {K2 : Nat → Int32 → Int32 → St → Option (Int32 × St)} {x0 : Nat} {x1 : Int32} {x2 : Int32} (hK2 : ∀ a0 a1 a2 a3, zEq zRfP z0 a3 → zPr zRfP z0 (K2 a0 a1 a2 a3)) (h : zEq zRfP z0 z) : zPr zRfP z0 (fX11_loseAllOn_92 N K2 x0 x1 x2 z) := by
  unfold fX11_loseAllOn_92
  exact zp_l (fun v1 => hK2 _ _ _ _ h)
theorem pX11_loseAllOn_33b {z0 z : St} {N : Nat} {K2 : Nat → Int32 → Int32 → St → Option (Int32 × St)} {K33 : Nat → Int32 → Int32 → Option Nat → Int32 → St → Option (Int32 × St)} {x0 : Nat} {x1 : Int32} {x2 : Int32} {x3 : Option Nat} {x4 : Int32} (hK2 : ∀ a0 a1 a2 a3, zEq zRfP z0 a3 → zPr zRfP z0 (K2 a0 a1 a2 a3)) (hK33 : ∀ a0 a1 a2 a3 a4 a5, zEq zRfP z0 a5 → zPr zRfP z0 (K33 a0 a1 a2 a3 a4 a5)) (h : zEq zRfP z0 z) : zPr zRfP z0 (fX11_loseAllOn_33b N K2 K33 x0 x1 x2 x3 x4 z) := by
  unfold fX11_loseAllOn_33b
  exact zp_i (pX11_loseAllOn_92 hK2 h) (zp_o (pX11_loseAllOn_92 hK2 h) (fun a3 => zp_l (fun y4 => zp_i (zp_c (pX11_hangIn  h) (fun _ z7 h1 => pX11_loseAllOn_83 hK2 hK33 h1)) (zp_lI h rfl (fun z10 h2 => zp_c (pX11_giveBack  h2) (fun _ z12 h3 => pX11_loseAllOn_83 hK2 hK33 h3))))))
theorem pX11_loseAllOn_33 {z0 : St} {N : Nat} {K2 : Nat → Int32 → Int32 → St → Option (Int32 × St)} (hK2 : ∀ a0 a1 a2 a3, zEq zRfP z0 a3 → zPr zRfP z0 (K2 a0 a1 a2 a3)) : ∀ (n : Nat) (y0 : Nat) (y1 : Int32) (y2 : Int32) (y3 : Option Nat) (y4 : Int32) (z : St), zEq zRfP z0 z → zPr zRfP z0 (fX11_loseAllOn_33 N K2 n y0 y1 y2 y3 y4 z) := by
  intro n
  induction n with
  | zero => intro y0 y1 y2 y3 y4 z h; exact zp_n
  | succ n ih => intro y0 y1 y2 y3 y4 z h; exact pX11_loseAllOn_33b hK2 (fun _ _ _ _ _ _ h => ih _ _ _ _ _ _ h) h
theorem pX11_loseAllOn_2b {z0 z : St} {N : Nat} {K2 : Nat → Int32 → Int32 → St → Option (Int32 × St)} {x0 : Nat} {x1 : Int32} {x2 : Int32} (hK2 : ∀ a0 a1 a2 a3, zEq zRfP z0 a3 → zPr zRfP z0 (K2 a0 a1 a2 a3)) (h : zEq zRfP z0 z) : zPr zRfP z0 (fX11_loseAllOn_2b N K2 x0 x1 x2 z) := by
  unfold fX11_loseAllOn_2b
  exact zp_i (zp_s h) (zp_k (zp_l (fun y3 => zp_k (zp_lQ h rfl (fun z5 h1 => zp_k (zp_lQ h1 rfl (fun z7 h2 => pX11_loseAllOn_33 hK2 _ _ _ _ _ _ _ h2)))))))
theorem pX11_loseAllOn_2 {z0 : St} {N : Nat} : ∀ (n : Nat) (y0 : Nat) (y1 : Int32) (y2 : Int32) (z : St), zEq zRfP z0 z → zPr zRfP z0 (fX11_loseAllOn_2 N n y0 y1 y2 z) := by
  intro n
  induction n with
  | zero => intro y0 y1 y2 z h; exact zp_n
  | succ n ih => intro y0 y1 y2 z h; exact pX11_loseAllOn_2b  (fun _ _ _ _ h => ih _ _ _ _ h) h
theorem pX11_loseAllOn {z0 z : St} {N : Nat} {x0 : Nat} {x1 : Int32} (h : zEq zRfP z0 z) : zPr zRfP z0 (fX11_loseAllOn N x0 x1 z) := by
  unfold fX11_loseAllOn
  exact pX11_loseAllOn_2  _ _ _ _ _ h
theorem pX11_putFrame_106b {z0 z : St} {N : Nat} {K106 : Nat → Nat → Int32 → Nat → Int32 → Int32 → Nat → Int32 → Int32 → Int32 → St → Option (Int32 × St)} {x0 : Nat} {x1 : Nat} {x2 : Int32} {x3 : Nat} {x4 : Int32} {x5 : Int32} {x6 : Nat} {x8 : Int32} {x9 : Int32} {x10 : Int32} (hK106 : ∀ a0 a1 a2 a3 a4 a5 a6 a7 a8 a9 a10, zEq zRfP z0 a10 → zPr zRfP z0 (K106 a0 a1 a2 a3 a4 a5 a6 a7 a8 a9 a10)) (h : zEq zRfP z0 z) : zPr zRfP z0 (fX11_putFrame_106b N K106 x0 x1 x2 x3 x4 x5 x6 x8 x9 x10 z) := by
  unfold fX11_putFrame_106b
  exact zp_i (zp_s h) (zp_l (fun y2 => zp_o (zp_s h) (fun a4 => zp_l (fun y5 => zp_d (fun a6 => zp_l (fun y7 => zp_lR h rfl (fun z8 h1 => zp_c (pX7_copyPart  h1) (fun _ z10 h2 => zp_lI h2 rfl (fun z13 h3 => zp_lI h3 rfl (fun z14 h4 => zp_lI h4 rfl (fun z15 h5 => zp_c (pX11_hangIn  h5) (fun _ z17 h6 => zp_lI h6 rfl (fun z20 h7 => zp_l (fun v21 => zp_l (fun v22 => hK106 _ _ _ _ _ _ _ _ _ _ _ h7)))))))))))))))
theorem pX11_putFrame_106 {z0 : St} {N : Nat} : ∀ (n : Nat) (y0 : Nat) (y1 : Nat) (y2 : Int32) (y3 : Nat) (y4 : Int32) (y5 : Int32) (y6 : Nat) (y7 : Int32) (y8 : Int32) (y9 : Int32) (z : St), zEq zRfP z0 z → zPr zRfP z0 (fX11_putFrame_106 N n y0 y1 y2 y3 y4 y5 y6 y7 y8 y9 z) := by
  intro n
  induction n with
  | zero => intro y0 y1 y2 y3 y4 y5 y6 y7 y8 y9 z h; exact zp_n
  | succ n ih => intro y0 y1 y2 y3 y4 y5 y6 y7 y8 y9 z h; exact pX11_putFrame_106b  (fun _ _ _ _ _ _ _ _ _ _ _ h => ih _ _ _ _ _ _ _ _ _ _ _ h) h
theorem pX11_putFrame_101 {z0 z : St} {N : Nat} {x0 : Nat} {x1 : Nat} {x2 : Int32} {x3 : Nat} {x4 : Int32} {x5 : Int32} {x6 : Nat} {x8 : Int32} {s0 : Int32} (h : zEq zRfP z0 z) : zPr zRfP z0 (fX11_putFrame_101 N x0 x1 x2 x3 x4 x5 x6 x8 s0 z) := by
  unfold fX11_putFrame_101
  exact pX11_putFrame_106  _ _ _ _ _ _ _ _ _ _ _ _ h
theorem pX11_putFrame_60 {z0 z : St} {N : Nat} {x0 : Nat} {x1 : Nat} {x2 : Int32} {x3 : Nat} {x4 : Int32} {x5 : Int32} {x6 : Nat} {x7 : Int32} {s0 : Int32} (h : zEq zRfP z0 z) : zPr zRfP z0 (fX11_putFrame_60 N x0 x1 x2 x3 x4 x5 x6 x7 s0 z) := by
  unfold fX11_putFrame_60
  exact zp_i (zp_i (pX11_putFrame_101  h) (pX11_putFrame_101  h)) (zp_c (pX11_stir  h) (fun _ z4 h1 => zp_s h1))
theorem pX11_putFrame_42 {z0 z : St} {N : Nat} {x0 : Nat} {x1 : Nat} {x2 : Int32} {x3 : Nat} {x4 : Int32} {x5 : Int32} {x6 : Nat} {x7 : Int32} (h : zEq zRfP z0 z) : zPr zRfP z0 (fX11_putFrame_42 N x0 x1 x2 x3 x4 x5 x6 x7 z) := by
  unfold fX11_putFrame_42
  exact zp_i (zp_i (pX11_putFrame_60  h) (pX11_putFrame_60  h)) (zp_s h)
theorem pX11_putFrame {z0 z : St} {N : Nat} {x0 : Nat} {x1 : Nat} {x2 : Int32} {x3 : Nat} {x4 : Int32} {x5 : Int32} (h : zEq zRfP z0 z) : zPr zRfP z0 (fX11_putFrame N x0 x1 x2 x3 x4 x5 z) := by
  unfold fX11_putFrame
  exact zp_l (fun y1 => zp_d (fun a2 => zp_lI h rfl (fun z3 h1 => zp_i (zp_c (pX5_nextFate  h1) (fun r5 z6 h2 => zp_i (pX11_putFrame_42  h2) (zp_c (pX11_stir  h2) (fun _ z11 h3 => pX11_putFrame_42  h3)))) (zp_s h1))))
theorem pX11_putOn_52b {z0 z : St} {N : Nat} {K52 : Nat → Nat → Int32 → Nat → Int32 → Int32 → St → Option (Int32 × St)} {x0 : Nat} {x1 : Nat} {x2 : Int32} {x3 : Nat} {x5 : Int32} {x6 : Int32} (hK52 : ∀ a0 a1 a2 a3 a4 a5 a6, zEq zRfP z0 a6 → zPr zRfP z0 (K52 a0 a1 a2 a3 a4 a5 a6)) (h : zEq zRfP z0 z) : zPr zRfP z0 (fX11_putOn_52b N K52 x0 x1 x2 x3 x5 x6 z) := by
  unfold fX11_putOn_52b
  exact zp_i (zp_s h) (zp_l (fun y2 => zp_d (fun a3 => zp_k (zp_k (zp_lA h rfl (fun z6 h1 => zp_c (pX11_putFrame  h1) (fun _ z8 h2 => zp_l (fun v11 => hK52 _ _ _ _ _ _ _ h2))))))))
theorem pX11_putOn_52 {z0 : St} {N : Nat} : ∀ (n : Nat) (y0 : Nat) (y1 : Nat) (y2 : Int32) (y3 : Nat) (y4 : Int32) (y5 : Int32) (z : St), zEq zRfP z0 z → zPr zRfP z0 (fX11_putOn_52 N n y0 y1 y2 y3 y4 y5 z) := by
  intro n
  induction n with
  | zero => intro y0 y1 y2 y3 y4 y5 z h; exact zp_n
  | succ n ih => intro y0 y1 y2 y3 y4 y5 z h; exact pX11_putOn_52b  (fun _ _ _ _ _ _ _ h => ih _ _ _ _ _ _ _ h) h
theorem pX11_putOn {z0 z : St} {N : Nat} {x0 : Nat} {x1 : Nat} {x2 : Int32} {x3 : Nat} (h : zEq zRfP z0 z) : zPr zRfP z0 (fX11_putOn N x0 x1 x2 x3 z) := by
  unfold fX11_putOn
  exact zp_l (fun y1 => zp_d (fun a2 => zp_l (fun v3 => zp_i (zp_l (fun v5 => pX11_putOn_52  _ _ _ _ _ _ _ _ h)) (zp_c (pX11_putFrame  h) (fun _ z7 h1 => zp_s h1)))))
theorem pX11_putNote {z0 z : St} {N : Nat} {x0 : Nat} {x1 : Nat} {x2 : Int32} {x3 : Int32} {x4 : Int32} (h : zEq zRfP z0 z) : zPr zRfP z0 (fX11_putNote N x0 x1 x2 x3 x4 z) := by
  unfold fX11_putNote
  exact zp_l (fun y1 => zp_d (fun a2 => zp_c (pX7_begin  h) (fun _ z4 h1 => zp_l (fun y7 => zp_d (fun a8 => zp_lI h1 rfl (fun z9 h2 => zp_l (fun y10 => zp_d (fun a11 => zp_lI h2 rfl (fun z12 h3 => zp_l (fun y13 => zp_l (fun y14 => zp_d (fun a15 => zp_d (fun a16 => zp_c (pX11_putFrame  h3) (fun _ z18 h4 => zp_s h4))))))))))))))
theorem pX11_hand_95 {z0 z : St} {N : Nat} {x0 : Nat} (h : zEq zRfP z0 z) : zPr zRfP z0 (fX11_hand_95 N x0 z) := by
  unfold fX11_hand_95
  exact zp_c (pX11_stir  h) (fun _ z2 h1 => zp_s h1)
theorem pX11_hand_52 {z0 z : St} {N : Nat} {x0 : Nat} {x1 : Nat} {x2 : Int32} {x3 : Nat} (h : zEq zRfP z0 z) : zPr zRfP z0 (fX11_hand_52 N x0 x1 x2 x3 z) := by
  unfold fX11_hand_52
  exact zp_c (pX8_letWait  h) (fun _ z2 h1 => zp_i (zp_s h1) (zp_c (pX8_takeWaiting  h1) (fun r6 z7 h2 => zp_d (fun a10 => zp_c (pX8_firstWaitingFor  h2) (fun r11 z12 h3 => zp_i (pX11_hand_95  h3) (zp_c (pX8_endAsking  h3) (fun _ z17 h4 => pX11_hand_95  h4)))))))
theorem pX11_hand {z0 z : St} {N : Nat} {x0 : Nat} {x1 : Nat} {x2 : Int32} {x3 : Nat} (h : zEq zRfP z0 z) : zPr zRfP z0 (fX11_hand N x0 x1 x2 x3 z) := by
  unfold fX11_hand
  exact zp_c (pX8_knows  h) (fun r1 z2 h1 => zp_i (zp_c (pX8_isAsked  h1) (fun r6 z7 h2 => zp_i (pX11_hand_52  h2) (zp_c (pX8_beginAsking  h2) (fun _ z12 h3 => zp_l (fun y15 => zp_d (fun a16 => zp_c (pX5_addressOf  h3) (fun r17 z18 h4 => zp_c (pX11_putNote  h4) (fun _ z22 h5 => pX11_hand_52  h5)))))))) (zp_c (pX11_putOn  h1) (fun _ z26 h6 => zp_s h6)))
theorem pX11_release_41 {z0 z : St} {N : Nat} {x1 : Nat} {x2 : Int32} (h : zEq zRfP z0 z) : zPr zRfP z0 (fX11_release_41 N x1 x2 z) := by
  unfold fX11_release_41
  exact zp_c (pX8_endAsking  h) (fun _ z2 h1 => zp_s h1)
theorem pX11_release_2b {z0 z : St} {N : Nat} {K2 : Nat → Nat → Int32 → Int32 → St → Option (Int32 × St)} {x0 : Nat} {x1 : Nat} {x2 : Int32} {x3 : Int32} (hK2 : ∀ a0 a1 a2 a3 a4, zEq zRfP z0 a4 → zPr zRfP z0 (K2 a0 a1 a2 a3 a4)) (h : zEq zRfP z0 z) : zPr zRfP z0 (fX11_release_2b N K2 x0 x1 x2 x3 z) := by
  unfold fX11_release_2b
  exact zp_i (pX11_release_41  h) (zp_c (pX8_firstWaitingFor  h) (fun r2 z3 h1 => zp_i (zp_c (pX8_takeWaiting  h1) (fun r7 z8 h2 => zp_d (fun a11 => zp_c (pX11_putOn  h2) (fun _ z13 h3 => zp_l (fun v16 => hK2 _ _ _ _ _ h3))))) (pX11_release_41  h1)))
theorem pX11_release_2 {z0 : St} {N : Nat} : ∀ (n : Nat) (y0 : Nat) (y1 : Nat) (y2 : Int32) (y3 : Int32) (z : St), zEq zRfP z0 z → zPr zRfP z0 (fX11_release_2 N n y0 y1 y2 y3 z) := by
  intro n
  induction n with
  | zero => intro y0 y1 y2 y3 z h; exact zp_n
  | succ n ih => intro y0 y1 y2 y3 z h; exact pX11_release_2b  (fun _ _ _ _ _ h => ih _ _ _ _ _ h) h
theorem pX11_release {z0 z : St} {N : Nat} {x0 : Nat} {x1 : Nat} {x2 : Int32} (h : zEq zRfP z0 z) : zPr zRfP z0 (fX11_release N x0 x1 x2 z) := by
  unfold fX11_release
  exact pX11_release_2  _ _ _ _ _ _ h
theorem pX11_abortAsking_56 {z0 z : St} {N : Nat} {K3 : Nat → Int32 → Int32 → Int32 → Int32 → St → Option (Int32 × St)} {x1 : Nat} {x2 : Int32} {x3 : Int32} {x4 : Int32} {x5 : Int32} (hK3 : ∀ a0 a1 a2 a3 a4 a5, zEq zRfP z0 a5 → zPr zRfP z0 (K3 a0 a1 a2 a3 a4 a5)) (h : zEq zRfP z0 z) : zPr zRfP z0 (fX11_abortAsking_56 N K3 x1 x2 x3 x4 x5 z) := by
  unfold fX11_abortAsking_56
  exact zp_l (fun v1 => hK3 _ _ _ _ _ _ h)
theorem pX11_abortAsking_3b {z0 z : St} {N : Nat} {K3 : Nat → Int32 → Int32 → Int32 → Int32 → St → Option (Int32 × St)} {x1 : Nat} {x2 : Int32} {x3 : Int32} {x4 : Int32} {x5 : Int32} (hK3 : ∀ a0 a1 a2 a3 a4 a5, zEq zRfP z0 a5 → zPr zRfP z0 (K3 a0 a1 a2 a3 a4 a5)) (h : zEq zRfP z0 z) : zPr zRfP z0 (fX11_abortAsking_3b N K3 x1 x2 x3 x4 x5 z) := by
  unfold fX11_abortAsking_3b
  exact zp_i (zp_s h) (zp_k (zp_l (fun y3 => zp_d (fun a4 => zp_c (pX2_isFor  h) (fun r5 z6 h1 => zp_i (pX11_abortAsking_56 hK3 h1) (zp_l (fun y10 => zp_d (fun a11 => zp_i (pX11_abortAsking_56 hK3 h1) (zp_l (fun y13 => zp_d (fun a14 => zp_c (pX3_finish  h1) (fun _ z16 h2 => pX11_abortAsking_56 hK3 h2))))))))))))
theorem pX11_abortAsking_3 {z0 : St} {N : Nat} : ∀ (n : Nat) (y0 : Nat) (y1 : Int32) (y2 : Int32) (y3 : Int32) (y4 : Int32) (z : St), zEq zRfP z0 z → zPr zRfP z0 (fX11_abortAsking_3 N n y0 y1 y2 y3 y4 z) := by
  intro n
  induction n with
  | zero => intro y0 y1 y2 y3 y4 z h; exact zp_n
  | succ n ih => intro y0 y1 y2 y3 y4 z h; exact pX11_abortAsking_3b  (fun _ _ _ _ _ _ h => ih _ _ _ _ _ _ h) h
theorem pX11_abortAsking {z0 z : St} {N : Nat} {x0 : Nat} {x1 : Nat} {x2 : Int32} {x3 : Int32} {x4 : Int32} (h : zEq zRfP z0 z) : zPr zRfP z0 (fX11_abortAsking N x0 x1 x2 x3 x4 z) := by
  unfold fX11_abortAsking
  exact pX11_abortAsking_3  _ _ _ _ _ _ _ h
theorem pX11_errorCame {z0 z : St} {N : Nat} {x0 : Nat} {x1 : Nat} {x2 : Nat} (h : zEq zRfP z0 z) : zPr zRfP z0 (fX11_errorCame N x0 x1 x2 z) := by
  unfold fX11_errorCame
  exact zp_k (zp_k (zp_lA h rfl (fun z3 h1 => zp_i (zp_s h1) (zp_c (pX7_get4  h1) (fun r5 z6 h2 => zp_c (pX1_hasAddress  h2) (fun r9 z10 h3 => zp_i (zp_s h3) (zp_c (pX7_get4  h3) (fun r14 z15 h4 => zp_c (pX7_get2  h4) (fun r18 z19 h5 => zp_c (pX7_get2  h5) (fun r22 z23 h6 => zp_c (pX11_abortAsking  h6) (fun _ z27 h7 => zp_s h7)))))))))))
theorem pX11_putTogether_51 {z0 z : St} {N : Nat} {x1 : Nat} {x2 : Nat} {x3 : Int32} (h : zEq zRfP z0 z) : zPr zRfP z0 (fX11_putTogether_51 N x1 x2 x3 z) := by
  unfold fX11_putTogether_51
  exact zp_c (pX1_addPiece  h) (fun r1 z2 h1 => zp_i (zp_k (zp_lA h1 rfl (fun z7 h2 => zp_k (zp_k (zp_lA h2 rfl (fun z10 h3 => zp_k (zp_l (fun y12 => zp_s h3)))))))) (zp_s h1))
theorem pX11_putTogether_41 {z0 z : St} {N : Nat} {x0 : Nat} {x1 : Nat} {x2 : Nat} {x3 : Int32} (h : zEq zRfP z0 z) : zPr zRfP z0 (fX11_putTogether_41 N x0 x1 x2 x3 z) := by
  unfold fX11_putTogether_41
  exact zp_c (pX1_beginPartial  h) (fun _ z2 h1 => pX11_putTogether_51  h1)
theorem pX11_putTogether {z0 z : St} {N : Nat} {x0 : Nat} {x1 : Nat} {x2 : Nat} (h : zEq zRfP z0 z) : zPr zRfP z0 (fX11_putTogether N x0 x1 x2 z) := by
  unfold fX11_putTogether
  exact zp_i (zp_c (pX1_partialFor  h) (fun r2 z3 h1 => zp_i (pX11_putTogether_51  h1) (zp_c (pX1_emptyPartial  h1) (fun r7 z8 h2 => zp_i (pX11_putTogether_41  h2) (zp_c (pX1_earliestPartial  h2) (fun r12 z13 h3 => zp_c (pX11_stir  h3) (fun _ z17 h4 => pX11_putTogether_41  h4))))))) (zp_s h)
theorem pX11_senderKey {z0 z : St} {N : Nat} {x0 : Nat} {x1 : Nat} {x2 : Nat} (h : zEq zRfP z0 z) : zPr zRfP z0 (fX11_senderKey N x0 x1 x2 z) := by
  unfold fX11_senderKey
  exact zp_c (pX11_portOfAddress  h) (fun r1 z2 h1 => zp_o (zp_s h1) (fun a6 => zp_l (fun y7 => zp_l (fun y8 => zp_i (zp_s h1) (zp_l (fun y10 => zp_d (fun a11 => zp_i (zp_l (fun y13 => zp_l (fun y14 => zp_i (zp_l (fun y16 => zp_d (fun a17 => zp_c (pX11_keyOf  h1) (fun r18 z19 h2 => zp_s h2)))) (zp_s h1)))) (zp_s h1))))))))
theorem pX11_takeAdvert_71 {z0 z : St} {N : Nat} {x0 : Nat} {x1 : Nat} {x2 : Nat} {x3 : Nat} {x4 : Int32} {x5 : Int32} {x6 : Int32} (h : zEq zRfP z0 z) : zPr zRfP z0 (fX11_takeAdvert_71 N x0 x1 x2 x3 x4 x5 x6 z) := by
  unfold fX11_takeAdvert_71
  exact zp_l (fun y1 => zp_d (fun a2 => zp_k (zp_l (fun v4 => zp_i (zp_c (pX9_setDue  h) (fun _ z7 h1 => zp_i (zp_l (fun y11 => zp_d (fun a12 => zp_i (zp_l (fun y14 => zp_d (fun a15 => zp_c (pX0_takeAdvert  h1) (fun _ z17 h2 => zp_c (pX9_setDueToAll  h2) (fun _ z21 h3 => zp_s h3))))) (zp_l (fun y24 => zp_l (fun y25 => zp_d (fun a26 => zp_d (fun a27 => zp_lI h1 rfl (fun z28 h4 => zp_s h4))))))))) (zp_s h1))) (zp_c (pX9_setDue  h) (fun _ z30 h5 => zp_s h5))))))
theorem pX11_takeAdvert {z0 z : St} {N : Nat} {x0 : Nat} {x1 : Nat} {x2 : Nat} (h : zEq zRfP z0 z) : zPr zRfP z0 (fX11_takeAdvert N x0 x1 x2 z) := by
  unfold fX11_takeAdvert
  exact zp_l (fun y1 => zp_d (fun a2 => zp_l (fun y3 => zp_c (pX11_senderKey  h) (fun r4 z5 h1 => zp_i (zp_s h1) (zp_d (fun a9 => zp_k (zp_i (zp_c (pX7_get2  h1) (fun r12 z13 h2 => zp_c (pX7_get4  h2) (fun r16 z17 h3 => zp_i (zp_c (pX9_addThanks  h3) (fun r21 z22 h4 => zp_i (pX11_takeAdvert_71  h4) (zp_c (pX11_stir  h4) (fun _ z27 h5 => pX11_takeAdvert_71  h5)))) (zp_s h3)))) (zp_s h1))))))))
theorem pX11_takeGreeting_71 {z0 z : St} {N : Nat} {K40 : Nat → Nat → Nat → Option Nat → Int32 → Int32 → Int32 → Int32 → St → Option (Int32 × St)} {x0 : Nat} {x1 : Nat} {x2 : Nat} {x3 : Option Nat} {x4 : Int32} {x5 : Int32} {x6 : Int32} {x7 : Int32} (hK40 : ∀ a0 a1 a2 a3 a4 a5 a6 a7 a8, zEq zRfP z0 a8 → zPr zRfP z0 (K40 a0 a1 a2 a3 a4 a5 a6 a7 a8)) (h : zEq zRfP z0 z) : zPr zRfP z0 (fX11_takeGreeting_71 N K40 x0 x1 x2 x3 x4 x5 x6 x7 z) := by
  unfold fX11_takeGreeting_71
  exact zp_l (fun v1 => hK40 _ _ _ _ _ _ _ _ _ h)
theorem pX11_takeGreeting_107 {z0 z : St} {N : Nat} {x0 : Nat} {x3 : Nat} {x4 : Int32} {x5 : Int32} (h : zEq zRfP z0 z) : zPr zRfP z0 (fX11_takeGreeting_107 N x0 x3 x4 x5 z) := by
  unfold fX11_takeGreeting_107
  exact zp_k (zp_lA h rfl (fun z2 h1 => zp_c (pX9_setFriend  h1) (fun _ z4 h2 => zp_s h2)))
theorem pX11_takeGreeting_40b {z0 z : St} {N : Nat} {K40 : Nat → Nat → Nat → Option Nat → Int32 → Int32 → Int32 → Int32 → St → Option (Int32 × St)} {x0 : Nat} {x1 : Nat} {x2 : Nat} {x3 : Option Nat} {x4 : Int32} {x5 : Int32} {x6 : Int32} {x7 : Int32} (hK40 : ∀ a0 a1 a2 a3 a4 a5 a6 a7 a8, zEq zRfP z0 a8 → zPr zRfP z0 (K40 a0 a1 a2 a3 a4 a5 a6 a7 a8)) (h : zEq zRfP z0 z) : zPr zRfP z0 (fX11_takeGreeting_40b N K40 x0 x1 x2 x3 x4 x5 x6 x7 z) := by
  unfold fX11_takeGreeting_40b
  exact zp_i (zp_d (fun a2 => zp_k (zp_i (pX11_takeGreeting_107  h) (zp_i (zp_c (pX9_beginHearing  h) (fun _ z7 h1 => pX11_takeGreeting_107  h1)) (zp_c (pX11_stir  h) (fun _ z11 h2 => zp_s h2)))))) (zp_c (pX7_get2  h) (fun r14 z15 h3 => zp_l (fun y18 => zp_d (fun a19 => zp_i (pX11_takeGreeting_71 hK40 h3) (pX11_takeGreeting_71 hK40 h3)))))
theorem pX11_takeGreeting_40 {z0 : St} {N : Nat} : ∀ (n : Nat) (y0 : Nat) (y1 : Nat) (y2 : Nat) (y3 : Option Nat) (y4 : Int32) (y5 : Int32) (y6 : Int32) (y7 : Int32) (z : St), zEq zRfP z0 z → zPr zRfP z0 (fX11_takeGreeting_40 N n y0 y1 y2 y3 y4 y5 y6 y7 z) := by
  intro n
  induction n with
  | zero => intro y0 y1 y2 y3 y4 y5 y6 y7 z h; exact zp_n
  | succ n ih => intro y0 y1 y2 y3 y4 y5 y6 y7 z h; exact pX11_takeGreeting_40b  (fun _ _ _ _ _ _ _ _ _ h => ih _ _ _ _ _ _ _ _ _ h) h
theorem pX11_takeGreeting {z0 z : St} {N : Nat} {x0 : Nat} {x1 : Nat} {x2 : Nat} (h : zEq zRfP z0 z) : zPr zRfP z0 (fX11_takeGreeting N x0 x1 x2 z) := by
  unfold fX11_takeGreeting
  exact zp_l (fun y1 => zp_d (fun a2 => zp_l (fun y3 => zp_c (pX11_senderKey  h) (fun r4 z5 h1 => zp_i (zp_c (pX7_get2  h1) (fun r9 z10 h2 => zp_l (fun v13 => pX11_takeGreeting_40  _ _ _ _ _ _ _ _ _ _ h2))) (zp_s h1)))))
theorem pX11_takeThanking {z0 z : St} {N : Nat} {x0 : Nat} {x1 : Nat} {x2 : Nat} (h : zEq zRfP z0 z) : zPr zRfP z0 (fX11_takeThanking N x0 x1 x2 z) := by
  unfold fX11_takeThanking
  exact zp_l (fun y1 => zp_d (fun a2 => zp_l (fun y3 => zp_c (pX11_senderKey  h) (fun r4 z5 h1 => zp_c (pX7_get2  h1) (fun r8 z9 h2 => zp_i (zp_s h2) (zp_i (zp_d (fun a14 => zp_l (fun y15 => zp_d (fun a16 => zp_k (zp_c (pX7_get4  h2) (fun r18 z19 h3 => zp_i (zp_s h3) (zp_c (pX9_setDue  h3) (fun _ z24 h4 => zp_s h4)))))))) (zp_s h2)))))))
theorem pX11_takeAsRouter {z0 z : St} {N : Nat} {x0 : Nat} {x1 : Nat} {x2 : Nat} (h : zEq zRfP z0 z) : zPr zRfP z0 (fX11_takeAsRouter N x0 x1 x2 z) := by
  unfold fX11_takeAsRouter
  exact zp_i (zp_i (zp_i (zp_s h) (zp_c (pX11_takeThanking  h) (fun _ z5 h1 => zp_s h1))) (zp_c (pX11_takeAdvert  h) (fun _ z9 h2 => zp_s h2))) (zp_c (pX11_takeGreeting  h) (fun _ z13 h3 => zp_s h3))
theorem pX11_resetStranger {z0 z : St} {N : Nat} {x0 : Nat} {x1 : Nat} {x2 : Nat} (h : zEq zRfP z0 z) : zPr zRfP z0 (fX11_resetStranger N x0 x1 x2 z) := by
  unfold fX11_resetStranger
  exact zp_c (pX7_has  h) (fun r1 z2 h1 => zp_i (zp_l (fun y6 => zp_c (pX7_resetFlags  h1) (fun r7 z8 h2 => zp_c (pX7_resetNumber  h2) (fun r11 z12 h3 => zp_c (pX7_resetThanked  h3) (fun r15 z16 h4 => zp_d (fun a19 => zp_c (pX7_beginSegment  h4) (fun _ z21 h5 => zp_l (fun y24 => zp_d (fun a25 => zp_lI h5 rfl (fun z26 h6 => zp_l (fun y27 => zp_d (fun a28 => zp_lI h6 rfl (fun z29 h7 => zp_l (fun y30 => zp_c (pX7_get2  h7) (fun r31 z32 h8 => zp_d (fun a35 => zp_c (pX7_put2  h8) (fun _ z37 h9 => zp_l (fun y40 => zp_c (pX7_get2  h9) (fun r41 z42 h10 => zp_d (fun a45 => zp_c (pX7_put2  h10) (fun _ z47 h11 => zp_l (fun y50 => zp_l (fun y51 => zp_d (fun a52 => zp_c (pX1_nextNumber  h11) (fun r53 z54 h12 => zp_d (fun a57 => zp_lI h12 rfl (fun z58 h13 => zp_lI h13 rfl (fun z59 h14 => zp_s h14)))))))))))))))))))))))))))) (zp_s h1))
theorem pX11_takeSegment_143 {z0 z : St} {N : Nat} {x0 : Nat} {x1 : Nat} {x2 : Nat} {x6 : Option Nat} (h : zEq zRfP z0 z) : zPr zRfP z0 (fX11_takeSegment_143 N x0 x1 x2 x6 z) := by
  unfold fX11_takeSegment_143
  exact zp_o (zp_c (pX11_resetStranger  h) (fun _ z4 h1 => zp_s h1)) (fun a2 => zp_l (fun y7 => zp_d (fun a8 => zp_i (zp_l (fun y10 => zp_d (fun a11 => zp_i (zp_l (fun y13 => zp_d (fun a14 => zp_c (pX3_goesOn  h) (fun r15 z16 h2 => zp_i (zp_s h2) (zp_l (fun y20 => zp_d (fun a21 => zp_c (pX3_takeRest  h2) (fun _ z23 h3 => zp_s h3)))))))) (zp_l (fun y26 => zp_d (fun a27 => zp_c (pX3_takeAsking  h) (fun _ z29 h4 => zp_s h4))))))) (zp_l (fun y32 => zp_d (fun a33 => zp_c (pX3_takeListening  h) (fun _ z35 h5 => zp_s h5)))))))
theorem pX11_takeSegment {z0 z : St} {N : Nat} {x0 : Nat} {x1 : Nat} {x2 : Nat} (h : zEq zRfP z0 z) : zPr zRfP z0 (fX11_takeSegment N x0 x1 x2 z) := by
  unfold fX11_takeSegment
  exact zp_l (fun y1 => zp_c (pX7_readHead  h) (fun _ z3 h1 => zp_c (pX7_get2  h1) (fun r6 z7 h2 => zp_c (pX7_get2  h2) (fun r10 z11 h3 => zp_d (fun a14 => zp_c (pX1_liveDoor  h3) (fun r15 z16 h4 => zp_o (zp_i (pX11_takeSegment_143  h4) (zp_c (pX1_listenerAt  h4) (fun r22 z23 h5 => zp_i (pX11_takeSegment_143  h5) (zp_c (pX1_doorThrough  h5) (fun r27 z28 h6 => zp_o (zp_s h6) (fun a32 => zp_c (pX2_giveEnd  h6) (fun _ z34 h7 => zp_lI h7 rfl (fun z37 h8 => zp_lI h8 rfl (fun z38 h9 => zp_lI h9 rfl (fun z39 h10 => zp_l (fun y40 => zp_c (pX11_firstNumber  h10) (fun r41 z42 h11 => zp_l (fun y45 => zp_d (fun a46 => zp_d (fun a47 => zp_c (pX3_begin  h11) (fun _ z49 h12 => pX11_takeSegment_143  h12)))))))))))))))) (fun a20 => pX11_takeSegment_143  h4)))))))
theorem pX11_arriveAt_145 {z0 z : St} {N : Nat} (h : zEq zRfP z0 z) : zPr zRfP z0 (fX11_arriveAt_145 N z) := by
  unfold fX11_arriveAt_145
  exact zp_s h
theorem pX11_arriveAt_151 {z0 z : St} {N : Nat} {x0 : Nat} {x1 : Nat} {x2 : Nat} {x3 : Option Nat} (h : zEq zRfP z0 z) : zPr zRfP z0 (fX11_arriveAt_151 N x0 x1 x2 x3 z) := by
  unfold fX11_arriveAt_151
  exact zp_d (fun a1 => zp_c (pX11_putTogether  h) (fun r2 z3 h1 => zp_o (zp_s h1) (fun a7 => zp_k (zp_k (zp_lA h1 rfl (fun z10 h2 => zp_i (zp_i (zp_i (zp_s h2) (zp_c (pX11_takeSegment  h2) (fun _ z15 h3 => zp_s h3))) (zp_c (pX11_takeAsRouter  h2) (fun _ z19 h4 => zp_s h4))) (zp_c (pX11_errorCame  h2) (fun _ z23 h5 => zp_s h5))))))))
theorem pX11_arriveAt_51 {z0 z : St} {N : Nat} {x0 : Nat} {x1 : Nat} {x2 : Nat} {x3 : Option Nat} (h : zEq zRfP z0 z) : zPr zRfP z0 (fX11_arriveAt_51 N x0 x1 x2 x3 z) := by
  unfold fX11_arriveAt_51
  exact zp_i (zp_i (zp_i (pX11_arriveAt_151  h) (zp_d (fun a4 => zp_c (pX1_hasAddress  h) (fun r5 z6 h1 => zp_i (pX11_arriveAt_151  h1) (zp_i (zp_s h1) (zp_i (zp_s h1) (zp_i (pX11_arriveAt_145  h1) (zp_i (zp_s h1) (pX11_arriveAt_145  h1))))))))) (zp_s h)) (zp_i (zp_s h) (zp_c (pX11_putNote  h) (fun _ z16 h2 => zp_s h2)))
theorem pX11_arriveAt {z0 z : St} {N : Nat} {x0 : Nat} {x1 : Nat} {x2 : Nat} (h : zEq zRfP z0 z) : zPr zRfP z0 (fX11_arriveAt N x0 x1 x2 z) := by
  unfold fX11_arriveAt
  exact zp_l (fun y1 => zp_l (fun y2 => zp_d (fun a3 => zp_lI h rfl (fun z4 h1 => zp_k (zp_lA h1 rfl (fun z6 h2 => zp_c (pX8_isAsked  h2) (fun r7 z8 h3 => zp_i (pX11_arriveAt_51  h3) (zp_c (pX11_release  h3) (fun _ z13 h4 => pX11_arriveAt_51  h4)))))))))
theorem pX11_comeBack_82 {z0 z : St} {N : Nat} {x0 : Nat} {x1 : Nat} {x2 : Nat} {x3 : Int32} {s0 : Option Nat} (h : zEq zRfP z0 z) : zPr zRfP z0 (fX11_comeBack_82 N x0 x1 x2 x3 s0 z) := by
  unfold fX11_comeBack_82
  exact zp_o (zp_s h) (fun a2 => zp_l (fun y3 => zp_d (fun a4 => zp_c (pX7_begin  h) (fun _ z6 h1 => zp_l (fun y9 => zp_d (fun a10 => zp_lI h1 rfl (fun z11 h2 => zp_l (fun y12 => zp_d (fun a13 => zp_lI h2 rfl (fun z14 h3 => zp_l (fun y15 => zp_c (pX1_nextNumber  h3) (fun r16 z17 h4 => zp_d (fun a20 => zp_lI h4 rfl (fun z21 h5 => zp_l (fun y22 => zp_d (fun a23 => zp_c (pX7_put4  h5) (fun _ z25 h6 => zp_l (fun y28 => zp_d (fun a29 => zp_c (pX7_put4  h6) (fun _ z31 h7 => zp_l (fun y34 => zp_c (pX7_get2  h7) (fun r35 z36 h8 => zp_d (fun a39 => zp_c (pX7_put2  h8) (fun _ z41 h9 => zp_l (fun y44 => zp_c (pX7_get2  h9) (fun r45 z46 h10 => zp_d (fun a49 => zp_c (pX7_put2  h10) (fun _ z51 h11 => zp_l (fun y54 => zp_d (fun a55 => zp_c (pX7_put2  h11) (fun _ z57 h12 => zp_lI h12 rfl (fun z60 h13 => zp_s h13))))))))))))))))))))))))))))))))
theorem pX11_comeBack {z0 z : St} {N : Nat} {x0 : Nat} {x1 : Nat} {x2 : Nat} {x3 : Int32} (h : zEq zRfP z0 z) : zPr zRfP z0 (fX11_comeBack N x0 x1 x2 x3 z) := by
  unfold fX11_comeBack
  exact zp_i (zp_s h) (zp_i (zp_c (pX1_hasAddress  h) (fun r3 z4 h1 => zp_i (zp_i (pX11_comeBack_82  h1) (zp_k (zp_l (fun y10 => pX11_comeBack_82  h1)))) (zp_k (zp_k (zp_lA h1 rfl (fun z13 h2 => zp_c (pX7_get2  h2) (fun r14 z15 h3 => zp_c (pX7_get2  h3) (fun r18 z19 h4 => zp_c (pX11_abortAsking  h4) (fun _ z23 h5 => zp_s h5))))))))) (zp_s h))
theorem pX11_routeFromRouter_125 {z0 z : St} {N : Nat} {x5 : Nat} {s0 : Option Nat} (h : zEq zRfP z0 z) : zPr zRfP z0 (fX11_routeFromRouter_125 N x5 s0 z) := by
  unfold fX11_routeFromRouter_125
  exact zp_o (zp_s h) (fun a2 => zp_s h)
theorem pX11_routeFromRouter {z0 z : St} {N : Nat} {x0 : Nat} {x1 : Nat} {x2 : Int32} (h : zEq zRfP z0 z) : zPr zRfP z0 (fX11_routeFromRouter N x0 x1 x2 z) := by
  unfold fX11_routeFromRouter
  exact zp_c (pX11_isNetAddress  h) (fun r1 z2 h1 => zp_i (zp_l (fun v6 => zp_l (fun y7 => zp_d (fun a8 => zp_l (fun y9 => zp_d (fun a10 => zp_k (zp_i (zp_k (zp_c (pX1_portOn  h1) (fun r14 z15 h2 => zp_o (zp_s h2) (fun a19 => zp_k (zp_i (zp_k (zp_c (pX11_routerOf  h2) (fun r23 z24 h3 => zp_o (pX11_routeFromRouter_125  h3) (fun a28 => zp_k (zp_c (pX1_portOn  h3) (fun r30 z31 h4 => pX11_routeFromRouter_125  h4)))))) (zp_s h2)))))) (zp_s h1)))))))) (zp_s h1))
theorem pX11_forward {z0 z : St} {N : Nat} {x0 : Nat} {x1 : Nat} {x2 : Nat} (h : zEq zRfP z0 z) : zPr zRfP z0 (fX11_forward N x0 x1 x2 z) := by
  unfold fX11_forward
  exact zp_l (fun y1 => zp_lI h rfl (fun z2 h1 => zp_lI h1 rfl (fun z3 h2 => zp_i (zp_d (fun a5 => zp_c (pX11_routeFromRouter  h2) (fun r6 z7 h3 => zp_i (zp_k (zp_k (zp_lA h3 rfl (fun z13 h4 => zp_k (zp_l (fun y15 => zp_d (fun a16 => zp_c (pX11_hand  h4) (fun _ z18 h5 => zp_s h5)))))))) (zp_c (pX11_comeBack  h3) (fun _ z22 h6 => zp_s h6))))) (zp_d (fun a25 => zp_c (pX11_comeBack  h2) (fun _ z27 h7 => zp_s h7))))))
theorem pX11_routeFromHost {z0 z : St} {N : Nat} {x0 : Nat} {x1 : Nat} {x2 : Int32} (h : zEq zRfP z0 z) : zPr zRfP z0 (fX11_routeFromHost N x0 x1 x2 z) := by
  unfold fX11_routeFromHost
  exact zp_k (zp_l (fun y2 => zp_o (zp_s h) (fun a4 => zp_i (zp_c (pX11_isNetAddress  h) (fun r6 z7 h1 => zp_i (zp_s h1) (zp_s h1))) (zp_l (fun y11 => zp_d (fun a12 => zp_c (pX5_leastRouter  h) (fun r13 z14 h2 => zp_s h2)))))))
theorem pX11_sendOff_28 {z0 z : St} {N : Nat} {x0 : Nat} {x1 : Nat} {x2 : Nat} {s0 : Int32} (h : zEq zRfP z0 z) : zPr zRfP z0 (fX11_sendOff_28 N x0 x1 x2 s0 z) := by
  unfold fX11_sendOff_28
  exact zp_i (zp_k (zp_l (fun y3 => zp_d (fun a4 => zp_c (pX11_hand  h) (fun _ z6 h1 => zp_s h1))))) (zp_c (pX11_comeBack  h) (fun _ z10 h2 => zp_s h2))
theorem pX11_sendOff {z0 z : St} {N : Nat} {x0 : Nat} {x1 : Nat} {x2 : Nat} (h : zEq zRfP z0 z) : zPr zRfP z0 (fX11_sendOff N x0 x1 x2 z) := by
  unfold fX11_sendOff
  exact zp_i (zp_c (pX11_routeFromHost  h) (fun r2 z3 h1 => pX11_sendOff_28  h1)) (zp_c (pX11_routeFromRouter  h) (fun r6 z7 h2 => pX11_sendOff_28  h2))
theorem pX11_letArrive_173 {z0 z : St} {N : Nat} {K11 : Nat → Int32 → Int32 → St → Option (Int32 × St)} {K80 : Nat → Int32 → Int32 → Nat → Option Nat → Int32 → St → Option (Int32 × St)} {x0 : Nat} {x1 : Int32} {x2 : Int32} {x3 : Nat} {x4 : Nat} {x5 : Int32} (hK11 : ∀ a0 a1 a2 a3, zEq zRfP z0 a3 → zPr zRfP z0 (K11 a0 a1 a2 a3)) (hK80 : ∀ a0 a1 a2 a3 a4 a5 a6, zEq zRfP z0 a6 → zPr zRfP z0 (K80 a0 a1 a2 a3 a4 a5 a6)) (h : zEq zRfP z0 z) : zPr zRfP z0 (fX11_letArrive_173 N K11 K80 x0 x1 x2 x3 x4 x5 z) := by
  unfold fX11_letArrive_173
  exact zp_l (fun v1 => hK80 _ _ _ _ _ _ _ h)
theorem pX11_letArrive_148 {z0 z : St} {N : Nat} {K11 : Nat → Int32 → Int32 → St → Option (Int32 × St)} {K80 : Nat → Int32 → Int32 → Nat → Option Nat → Int32 → St → Option (Int32 × St)} {x0 : Nat} {x1 : Int32} {x2 : Int32} {x3 : Nat} {x4 : Nat} {x5 : Int32} {x6 : Nat} (hK11 : ∀ a0 a1 a2 a3, zEq zRfP z0 a3 → zPr zRfP z0 (K11 a0 a1 a2 a3)) (hK80 : ∀ a0 a1 a2 a3 a4 a5 a6, zEq zRfP z0 a6 → zPr zRfP z0 (K80 a0 a1 a2 a3 a4 a5 a6)) (h : zEq zRfP z0 z) : zPr zRfP z0 (fX11_letArrive_148 N K11 K80 x0 x1 x2 x3 x4 x5 x6 z) := by
  unfold fX11_letArrive_148
  exact zp_i (pX11_letArrive_173 hK11 hK80 h) (zp_lI h rfl (fun z2 h1 => zp_l (fun y3 => zp_l (fun y4 => zp_d (fun a5 => zp_d (fun a6 => zp_c (pX11_sendOff  h1) (fun _ z8 h2 => pX11_letArrive_173 hK11 hK80 h2)))))))
theorem pX11_letArrive_121 {z0 z : St} {N : Nat} {K11 : Nat → Int32 → Int32 → St → Option (Int32 × St)} {K80 : Nat → Int32 → Int32 → Nat → Option Nat → Int32 → St → Option (Int32 × St)} {x0 : Nat} {x1 : Int32} {x2 : Int32} {x3 : Nat} {x4 : Nat} {x5 : Int32} (hK11 : ∀ a0 a1 a2 a3, zEq zRfP z0 a3 → zPr zRfP z0 (K11 a0 a1 a2 a3)) (hK80 : ∀ a0 a1 a2 a3 a4 a5 a6, zEq zRfP z0 a6 → zPr zRfP z0 (K80 a0 a1 a2 a3 a4 a5 a6)) (h : zEq zRfP z0 z) : zPr zRfP z0 (fX11_letArrive_121 N K11 K80 x0 x1 x2 x3 x4 x5 z) := by
  unfold fX11_letArrive_121
  exact zp_k (zp_l (fun y2 => zp_d (fun a3 => zp_c (pX11_arriveAt  h) (fun r4 z5 h1 => zp_i (pX11_letArrive_148 hK11 hK80 h1) (zp_c (pX11_forward  h1) (fun _ z10 h2 => pX11_letArrive_148 hK11 hK80 h2))))))
theorem pX11_letArrive_80b {z0 z : St} {N : Nat} {K11 : Nat → Int32 → Int32 → St → Option (Int32 × St)} {K80 : Nat → Int32 → Int32 → Nat → Option Nat → Int32 → St → Option (Int32 × St)} {x0 : Nat} {x1 : Int32} {x2 : Int32} {x3 : Nat} {x4 : Option Nat} {x5 : Int32} (hK11 : ∀ a0 a1 a2 a3, zEq zRfP z0 a3 → zPr zRfP z0 (K11 a0 a1 a2 a3)) (hK80 : ∀ a0 a1 a2 a3 a4 a5 a6, zEq zRfP z0 a6 → zPr zRfP z0 (K80 a0 a1 a2 a3 a4 a5 a6)) (h : zEq zRfP z0 z) : zPr zRfP z0 (fX11_letArrive_80b N K11 K80 x0 x1 x2 x3 x4 x5 z) := by
  unfold fX11_letArrive_80b
  exact zp_d (fun a1 => zp_i (zp_c (pX11_giveBack  h) (fun _ z4 h1 => zp_l (fun v7 => hK11 _ _ _ _ h1))) (zp_i (zp_i (pX11_letArrive_121 hK11 hK80 h) (pX11_letArrive_173 hK11 hK80 h)) (zp_i (pX11_letArrive_121 hK11 hK80 h) (pX11_letArrive_173 hK11 hK80 h))))
theorem pX11_letArrive_80 {z0 : St} {N : Nat} {K11 : Nat → Int32 → Int32 → St → Option (Int32 × St)} (hK11 : ∀ a0 a1 a2 a3, zEq zRfP z0 a3 → zPr zRfP z0 (K11 a0 a1 a2 a3)) : ∀ (n : Nat) (y0 : Nat) (y1 : Int32) (y2 : Int32) (y3 : Nat) (y4 : Option Nat) (y5 : Int32) (z : St), zEq zRfP z0 z → zPr zRfP z0 (fX11_letArrive_80 N K11 n y0 y1 y2 y3 y4 y5 z) := by
  intro n
  induction n with
  | zero => intro y0 y1 y2 y3 y4 y5 z h; exact zp_n
  | succ n ih => intro y0 y1 y2 y3 y4 y5 z h; exact pX11_letArrive_80b hK11 (fun _ _ _ _ _ _ _ h => ih _ _ _ _ _ _ _ h) h
theorem pX11_letArrive_56 {z0 z : St} {N : Nat} {K11 : Nat → Int32 → Int32 → St → Option (Int32 × St)} {x0 : Nat} {x1 : Int32} {x2 : Int32} {x3 : Nat} (hK11 : ∀ a0 a1 a2 a3, zEq zRfP z0 a3 → zPr zRfP z0 (K11 a0 a1 a2 a3)) (h : zEq zRfP z0 z) : zPr zRfP z0 (fX11_letArrive_56 N K11 x0 x1 x2 x3 z) := by
  unfold fX11_letArrive_56
  exact zp_lI h rfl (fun z1 h1 => zp_k (zp_l (fun y3 => pX11_letArrive_80 hK11 _ _ _ _ _ _ _ _ h1)))
theorem pX11_letArrive_11b {z0 z : St} {N : Nat} {K11 : Nat → Int32 → Int32 → St → Option (Int32 × St)} {x0 : Nat} {x1 : Int32} {x2 : Int32} (hK11 : ∀ a0 a1 a2 a3, zEq zRfP z0 a3 → zPr zRfP z0 (K11 a0 a1 a2 a3)) (h : zEq zRfP z0 z) : zPr zRfP z0 (fX11_letArrive_11b N K11 x0 x1 x2 z) := by
  unfold fX11_letArrive_11b
  exact zp_i (zp_s h) (zp_k (zp_l (fun y3 => zp_o (zp_s h) (fun a5 => zp_l (fun y6 => zp_k (zp_lQ h rfl (fun z8 h1 => zp_l (fun y9 => zp_o (zp_k (zp_lQ h1 rfl (fun z13 h2 => pX11_letArrive_56 hK11 h2))) (fun a11 => pX11_letArrive_56 hK11 h1)))))))))
theorem pX11_letArrive_11 {z0 : St} {N : Nat} : ∀ (n : Nat) (y0 : Nat) (y1 : Int32) (y2 : Int32) (z : St), zEq zRfP z0 z → zPr zRfP z0 (fX11_letArrive_11 N n y0 y1 y2 z) := by
  intro n
  induction n with
  | zero => intro y0 y1 y2 z h; exact zp_n
  | succ n ih => intro y0 y1 y2 z h; exact pX11_letArrive_11b  (fun _ _ _ _ h => ih _ _ _ _ h) h
theorem pX11_letArrive {z0 z : St} {N : Nat} {x0 : Nat} (h : zEq zRfP z0 z) : zPr zRfP z0 (fX11_letArrive N x0 z) := by
  unfold fX11_letArrive
  exact zp_l (fun v1 => pX11_letArrive_11  _ _ _ _ _ h)
theorem pX11_givePartialUp_47 {z0 z : St} {N : Nat} {K2 : Nat → Nat → Int32 → St → Option (Int32 × St)} {x0 : Nat} {x1 : Nat} {x2 : Int32} (hK2 : ∀ a0 a1 a2 a3, zEq zRfP z0 a3 → zPr zRfP z0 (K2 a0 a1 a2 a3)) (h : zEq zRfP z0 z) : zPr zRfP z0 (fX11_givePartialUp_47 N K2 x0 x1 x2 z) := by
  unfold fX11_givePartialUp_47
  exact zp_l (fun v1 => hK2 _ _ _ _ h)
theorem pX11_givePartialUp_2b {z0 z : St} {N : Nat} {K2 : Nat → Nat → Int32 → St → Option (Int32 × St)} {x0 : Nat} {x1 : Nat} {x2 : Int32} (hK2 : ∀ a0 a1 a2 a3, zEq zRfP z0 a3 → zPr zRfP z0 (K2 a0 a1 a2 a3)) (h : zEq zRfP z0 z) : zPr zRfP z0 (fX11_givePartialUp_2b N K2 x0 x1 x2 z) := by
  unfold fX11_givePartialUp_2b
  exact zp_i (zp_s h) (zp_k (zp_i (pX11_givePartialUp_47 hK2 h) (zp_k (zp_i (zp_k (zp_lA h rfl (fun z7 h1 => zp_c (pX11_stir  h1) (fun _ z9 h2 => pX11_givePartialUp_47 hK2 h2)))) (pX11_givePartialUp_47 hK2 h)))))
theorem pX11_givePartialUp_2 {z0 : St} {N : Nat} : ∀ (n : Nat) (y0 : Nat) (y1 : Nat) (y2 : Int32) (z : St), zEq zRfP z0 z → zPr zRfP z0 (fX11_givePartialUp_2 N n y0 y1 y2 z) := by
  intro n
  induction n with
  | zero => intro y0 y1 y2 z h; exact zp_n
  | succ n ih => intro y0 y1 y2 z h; exact pX11_givePartialUp_2b  (fun _ _ _ _ h => ih _ _ _ _ h) h
theorem pX11_givePartialUp {z0 z : St} {N : Nat} {x0 : Nat} {x1 : Nat} (h : zEq zRfP z0 z) : zPr zRfP z0 (fX11_givePartialUp N x0 x1 z) := by
  unfold fX11_givePartialUp
  exact pX11_givePartialUp_2  _ _ _ _ _ h
theorem pX11_doAskings_185 {z0 z : St} {N : Nat} {K2 : Nat → Nat → Int32 → St → Option (Int32 × St)} {K26 : Nat → Nat → Int32 → Nat → Int32 → Int32 → St → Option (Int32 × St)} {K126 : Nat → Nat → Int32 → Nat → Int32 → Int32 → Int32 → Int32 → Int32 → St → Option (Int32 × St)} {x0 : Nat} {x1 : Nat} {x2 : Int32} {x3 : Nat} {x4 : Int32} {x5 : Int32} {x6 : Int32} {x8 : Int32} {x9 : Int32} (hK2 : ∀ a0 a1 a2 a3, zEq zRfP z0 a3 → zPr zRfP z0 (K2 a0 a1 a2 a3)) (hK26 : ∀ a0 a1 a2 a3 a4 a5 a6, zEq zRfP z0 a6 → zPr zRfP z0 (K26 a0 a1 a2 a3 a4 a5 a6)) (hK126 : ∀ a0 a1 a2 a3 a4 a5 a6 a7 a8 a9, zEq zRfP z0 a9 → zPr zRfP z0 (K126 a0 a1 a2 a3 a4 a5 a6 a7 a8 a9)) (h : zEq zRfP z0 z) : zPr zRfP z0 (fX11_doAskings_185 N K2 K26 K126 x0 x1 x2 x3 x4 x5 x6 x8 x9 z) := by
  unfold fX11_doAskings_185
  exact zp_l (fun v1 => hK126 _ _ _ _ _ _ _ _ _ _ h)
theorem pX11_doAskings_191 {z0 z : St} {N : Nat} {K2 : Nat → Nat → Int32 → St → Option (Int32 × St)} {K26 : Nat → Nat → Int32 → Nat → Int32 → Int32 → St → Option (Int32 × St)} {x0 : Nat} {x1 : Nat} {x2 : Int32} {x3 : Nat} {x4 : Int32} {x5 : Int32} (hK2 : ∀ a0 a1 a2 a3, zEq zRfP z0 a3 → zPr zRfP z0 (K2 a0 a1 a2 a3)) (hK26 : ∀ a0 a1 a2 a3 a4 a5 a6, zEq zRfP z0 a6 → zPr zRfP z0 (K26 a0 a1 a2 a3 a4 a5 a6)) (h : zEq zRfP z0 z) : zPr zRfP z0 (fX11_doAskings_191 N K2 K26 x0 x1 x2 x3 x4 x5 z) := by
  unfold fX11_doAskings_191
  exact zp_l (fun v1 => hK26 _ _ _ _ _ _ _ h)
theorem pX11_doAskings_126b {z0 z : St} {N : Nat} {K2 : Nat → Nat → Int32 → St → Option (Int32 × St)} {K26 : Nat → Nat → Int32 → Nat → Int32 → Int32 → St → Option (Int32 × St)} {K126 : Nat → Nat → Int32 → Nat → Int32 → Int32 → Int32 → Int32 → Int32 → St → Option (Int32 × St)} {x0 : Nat} {x1 : Nat} {x2 : Int32} {x3 : Nat} {x4 : Int32} {x5 : Int32} {x6 : Int32} {x8 : Int32} {x9 : Int32} (hK2 : ∀ a0 a1 a2 a3, zEq zRfP z0 a3 → zPr zRfP z0 (K2 a0 a1 a2 a3)) (hK26 : ∀ a0 a1 a2 a3 a4 a5 a6, zEq zRfP z0 a6 → zPr zRfP z0 (K26 a0 a1 a2 a3 a4 a5 a6)) (hK126 : ∀ a0 a1 a2 a3 a4 a5 a6 a7 a8 a9, zEq zRfP z0 a9 → zPr zRfP z0 (K126 a0 a1 a2 a3 a4 a5 a6 a7 a8 a9)) (h : zEq zRfP z0 z) : zPr zRfP z0 (fX11_doAskings_126b N K2 K26 K126 x0 x1 x2 x3 x4 x5 x6 x8 x9 z) := by
  unfold fX11_doAskings_126b
  exact zp_i (pX11_doAskings_191 hK2 hK26 h) (zp_c (pX8_firstWaitingFor  h) (fun r2 z3 h1 => zp_i (zp_c (pX8_takeWaiting  h1) (fun r7 z8 h2 => zp_d (fun a11 => zp_c (pX11_comeBack  h2) (fun _ z13 h3 => zp_i (zp_lI h3 rfl (fun z17 h4 => zp_l (fun y18 => zp_d (fun a19 => zp_c (pX11_sendOff  h4) (fun _ z21 h5 => pX11_doAskings_185 hK2 hK26 hK126 h5))))) (pX11_doAskings_185 hK2 hK26 hK126 h3))))) (pX11_doAskings_191 hK2 hK26 h1)))
theorem pX11_doAskings_126 {z0 : St} {N : Nat} {K2 : Nat → Nat → Int32 → St → Option (Int32 × St)} {K26 : Nat → Nat → Int32 → Nat → Int32 → Int32 → St → Option (Int32 × St)} (hK2 : ∀ a0 a1 a2 a3, zEq zRfP z0 a3 → zPr zRfP z0 (K2 a0 a1 a2 a3)) (hK26 : ∀ a0 a1 a2 a3 a4 a5 a6, zEq zRfP z0 a6 → zPr zRfP z0 (K26 a0 a1 a2 a3 a4 a5 a6)) : ∀ (n : Nat) (y0 : Nat) (y1 : Nat) (y2 : Int32) (y3 : Nat) (y4 : Int32) (y5 : Int32) (y6 : Int32) (y7 : Int32) (y8 : Int32) (z : St), zEq zRfP z0 z → zPr zRfP z0 (fX11_doAskings_126 N K2 K26 n y0 y1 y2 y3 y4 y5 y6 y7 y8 z) := by
  intro n
  induction n with
  | zero => intro y0 y1 y2 y3 y4 y5 y6 y7 y8 z h; exact zp_n
  | succ n ih => intro y0 y1 y2 y3 y4 y5 y6 y7 y8 z h; exact pX11_doAskings_126b hK2 hK26 (fun _ _ _ _ _ _ _ _ _ _ h => ih _ _ _ _ _ _ _ _ _ _ h) h
theorem pX11_doAskings_98 {z0 z : St} {N : Nat} {K2 : Nat → Nat → Int32 → St → Option (Int32 × St)} {K26 : Nat → Nat → Int32 → Nat → Int32 → Int32 → St → Option (Int32 × St)} {x0 : Nat} {x1 : Nat} {x2 : Int32} {x3 : Nat} {x4 : Int32} {x5 : Int32} {x6 : Int32} {x7 : Int32} (hK2 : ∀ a0 a1 a2 a3, zEq zRfP z0 a3 → zPr zRfP z0 (K2 a0 a1 a2 a3)) (hK26 : ∀ a0 a1 a2 a3 a4 a5 a6, zEq zRfP z0 a6 → zPr zRfP z0 (K26 a0 a1 a2 a3 a4 a5 a6)) (h : zEq zRfP z0 z) : zPr zRfP z0 (fX11_doAskings_98 N K2 K26 x0 x1 x2 x3 x4 x5 x6 x7 z) := by
  unfold fX11_doAskings_98
  exact zp_i (zp_c (pX8_countWaitingFor  h) (fun r2 z3 h1 => zp_c (pX8_endAsking  h1) (fun _ z7 h2 => pX11_doAskings_126 hK2 hK26 _ _ _ _ _ _ _ _ _ _ _ h2))) (pX11_doAskings_191 hK2 hK26 h)
theorem pX11_doAskings_82 {z0 z : St} {N : Nat} {K2 : Nat → Nat → Int32 → St → Option (Int32 × St)} {K26 : Nat → Nat → Int32 → Nat → Int32 → Int32 → St → Option (Int32 × St)} {x0 : Nat} {x1 : Nat} {x2 : Int32} {x3 : Nat} {x4 : Int32} {x5 : Int32} {x6 : Int32} {x7 : Int32} (hK2 : ∀ a0 a1 a2 a3, zEq zRfP z0 a3 → zPr zRfP z0 (K2 a0 a1 a2 a3)) (hK26 : ∀ a0 a1 a2 a3 a4 a5 a6, zEq zRfP z0 a6 → zPr zRfP z0 (K26 a0 a1 a2 a3 a4 a5 a6)) (h : zEq zRfP z0 z) : zPr zRfP z0 (fX11_doAskings_82 N K2 K26 x0 x1 x2 x3 x4 x5 x6 x7 z) := by
  unfold fX11_doAskings_82
  exact zp_l (fun y1 => zp_d (fun a2 => zp_c (pX5_addressOf  h) (fun r3 z4 h1 => zp_c (pX11_putNote  h1) (fun _ z8 h2 => pX11_doAskings_98 hK2 hK26 h2))))
theorem pX11_doAskings_26b {z0 z : St} {N : Nat} {K2 : Nat → Nat → Int32 → St → Option (Int32 × St)} {K26 : Nat → Nat → Int32 → Nat → Int32 → Int32 → St → Option (Int32 × St)} {x0 : Nat} {x1 : Nat} {x2 : Int32} {x3 : Nat} {x4 : Int32} {x5 : Int32} (hK2 : ∀ a0 a1 a2 a3, zEq zRfP z0 a3 → zPr zRfP z0 (K2 a0 a1 a2 a3)) (hK26 : ∀ a0 a1 a2 a3 a4 a5 a6, zEq zRfP z0 a6 → zPr zRfP z0 (K26 a0 a1 a2 a3 a4 a5 a6)) (h : zEq zRfP z0 z) : zPr zRfP z0 (fX11_doAskings_26b N K2 K26 x0 x1 x2 x3 x4 x5 z) := by
  unfold fX11_doAskings_26b
  exact zp_i (zp_l (fun v2 => hK2 _ _ _ _ h)) (zp_k (zp_l (fun v4 => zp_c (pX8_isAsked  h) (fun r5 z6 h1 => zp_i (zp_k (zp_l (fun v11 => zp_i (pX11_doAskings_82 hK2 hK26 h1) (zp_i (pX11_doAskings_98 hK2 hK26 h1) (pX11_doAskings_82 hK2 hK26 h1))))) (pX11_doAskings_191 hK2 hK26 h1)))))
theorem pX11_doAskings_26 {z0 : St} {N : Nat} {K2 : Nat → Nat → Int32 → St → Option (Int32 × St)} (hK2 : ∀ a0 a1 a2 a3, zEq zRfP z0 a3 → zPr zRfP z0 (K2 a0 a1 a2 a3)) : ∀ (n : Nat) (y0 : Nat) (y1 : Nat) (y2 : Int32) (y3 : Nat) (y4 : Int32) (y5 : Int32) (z : St), zEq zRfP z0 z → zPr zRfP z0 (fX11_doAskings_26 N K2 n y0 y1 y2 y3 y4 y5 z) := by
  intro n
  induction n with
  | zero => intro y0 y1 y2 y3 y4 y5 z h; exact zp_n
  | succ n ih => intro y0 y1 y2 y3 y4 y5 z h; exact pX11_doAskings_26b hK2 (fun _ _ _ _ _ _ _ h => ih _ _ _ _ _ _ _ h) h
theorem pX11_doAskings_2b {z0 z : St} {N : Nat} {K2 : Nat → Nat → Int32 → St → Option (Int32 × St)} {x0 : Nat} {x1 : Nat} {x2 : Int32} (hK2 : ∀ a0 a1 a2 a3, zEq zRfP z0 a3 → zPr zRfP z0 (K2 a0 a1 a2 a3)) (h : zEq zRfP z0 z) : zPr zRfP z0 (fX11_doAskings_2b N K2 x0 x1 x2 z) := by
  unfold fX11_doAskings_2b
  exact zp_i (zp_s h) (zp_k (zp_l (fun y3 => zp_d (fun a4 => zp_c (pX8_rememberAsked  h) (fun r5 z6 h1 => pX11_doAskings_26 hK2 _ _ _ _ _ _ _ _ h1)))))
theorem pX11_doAskings_2 {z0 : St} {N : Nat} : ∀ (n : Nat) (y0 : Nat) (y1 : Nat) (y2 : Int32) (z : St), zEq zRfP z0 z → zPr zRfP z0 (fX11_doAskings_2 N n y0 y1 y2 z) := by
  intro n
  induction n with
  | zero => intro y0 y1 y2 z h; exact zp_n
  | succ n ih => intro y0 y1 y2 z h; exact pX11_doAskings_2b  (fun _ _ _ _ h => ih _ _ _ _ h) h
theorem pX11_doAskings {z0 z : St} {N : Nat} {x0 : Nat} {x1 : Nat} (h : zEq zRfP z0 z) : zPr zRfP z0 (fX11_doAskings N x0 x1 z) := by
  unfold fX11_doAskings
  exact pX11_doAskings_2  _ _ _ _ _ h
theorem pX11_forgetSilent_69 {z0 z : St} {N : Nat} {K12 : Nat → Nat → Nat → Int32 → St → Option (Int32 × St)} {x0 : Nat} {x1 : Nat} {x2 : Nat} {x3 : Int32} (hK12 : ∀ a0 a1 a2 a3 a4, zEq zRfP z0 a4 → zPr zRfP z0 (K12 a0 a1 a2 a3 a4)) (h : zEq zRfP z0 z) : zPr zRfP z0 (fX11_forgetSilent_69 N K12 x0 x1 x2 x3 z) := by
  unfold fX11_forgetSilent_69
  exact zp_l (fun v1 => hK12 _ _ _ _ _ h)
theorem pX11_forgetSilent_64 {z0 z : St} {N : Nat} {K12 : Nat → Nat → Nat → Int32 → St → Option (Int32 × St)} {x0 : Nat} {x1 : Nat} {x2 : Nat} {x3 : Int32} (hK12 : ∀ a0 a1 a2 a3 a4, zEq zRfP z0 a4 → zPr zRfP z0 (K12 a0 a1 a2 a3 a4)) (h : zEq zRfP z0 z) : zPr zRfP z0 (fX11_forgetSilent_64 N K12 x0 x1 x2 x3 z) := by
  unfold fX11_forgetSilent_64
  exact zp_c (pX9_forget  h) (fun _ z2 h1 => pX11_forgetSilent_69 hK12 h1)
theorem pX11_forgetSilent_12b {z0 z : St} {N : Nat} {K12 : Nat → Nat → Nat → Int32 → St → Option (Int32 × St)} {x0 : Nat} {x1 : Nat} {x2 : Nat} {x3 : Int32} (hK12 : ∀ a0 a1 a2 a3 a4, zEq zRfP z0 a4 → zPr zRfP z0 (K12 a0 a1 a2 a3 a4)) (h : zEq zRfP z0 z) : zPr zRfP z0 (fX11_forgetSilent_12b N K12 x0 x1 x2 x3 z) := by
  unfold fX11_forgetSilent_12b
  exact zp_i (zp_s h) (zp_k (zp_l (fun v3 => zp_k (zp_l (fun y5 => zp_d (fun a6 => zp_l (fun y7 => zp_d (fun a8 => zp_i (pX11_forgetSilent_64 hK12 h) (zp_k (zp_i (pX11_forgetSilent_69 hK12 h) (pX11_forgetSilent_64 hK12 h)))))))))))
theorem pX11_forgetSilent_12 {z0 : St} {N : Nat} : ∀ (n : Nat) (y0 : Nat) (y1 : Nat) (y2 : Nat) (y3 : Int32) (z : St), zEq zRfP z0 z → zPr zRfP z0 (fX11_forgetSilent_12 N n y0 y1 y2 y3 z) := by
  intro n
  induction n with
  | zero => intro y0 y1 y2 y3 z h; exact zp_n
  | succ n ih => intro y0 y1 y2 y3 z h; exact pX11_forgetSilent_12b  (fun _ _ _ _ _ h => ih _ _ _ _ _ h) h
theorem pX11_forgetSilent {z0 z : St} {N : Nat} {x0 : Nat} {x1 : Nat} (h : zEq zRfP z0 z) : zPr zRfP z0 (fX11_forgetSilent N x0 x1 z) := by
  unfold fX11_forgetSilent
  exact zp_l (fun y1 => zp_d (fun a2 => zp_l (fun v3 => pX11_forgetSilent_12  _ _ _ _ _ _ h)))
theorem pX11_makeOwnAdvert_121 {z0 z : St} {N : Nat} {x0 : Nat} {x1 : Nat} {x2 : Nat} {x3 : Nat} (h : zEq zRfP z0 z) : zPr zRfP z0 (fX11_makeOwnAdvert_121 N x0 x1 x2 x3 z) := by
  unfold fX11_makeOwnAdvert_121
  exact zp_lI h rfl (fun z1 h1 => zp_lI h1 rfl (fun z2 h2 => zp_c (pX0_takeDraft  h2) (fun _ z4 h3 => zp_c (pX9_setDueToAll  h3) (fun _ z8 h4 => zp_s h4))))
theorem pX11_makeOwnAdvert_90 {z0 z : St} {N : Nat} {x0 : Nat} {x1 : Nat} {x2 : Nat} {x3 : Nat} {x5 : Int32} (h : zEq zRfP z0 z) : zPr zRfP z0 (fX11_makeOwnAdvert_90 N x0 x1 x2 x3 x5 z) := by
  unfold fX11_makeOwnAdvert_90
  exact zp_c (pX9_draftAdvert  h) (fun _ z2 h1 => zp_lI h1 rfl (fun z5 h2 => zp_i (pX11_makeOwnAdvert_121  h2) (zp_c (pX0_tellsDraft  h2) (fun r7 z8 h3 => zp_i (pX11_makeOwnAdvert_121  h3) (zp_s h3)))))
theorem pX11_makeOwnAdvert_75 {z0 z : St} {N : Nat} {x0 : Nat} {x1 : Nat} {x2 : Nat} {x3 : Nat} {s0 : Int32} (h : zEq zRfP z0 z) : zPr zRfP z0 (fX11_makeOwnAdvert_75 N x0 x1 x2 x3 s0 z) := by
  unfold fX11_makeOwnAdvert_75
  exact zp_i (pX11_makeOwnAdvert_90  h) (zp_i (pX11_makeOwnAdvert_90  h) (zp_s h))
theorem pX11_makeOwnAdvert_70 {z0 z : St} {N : Nat} {x0 : Nat} {x1 : Nat} {x2 : Nat} {x3 : Nat} (h : zEq zRfP z0 z) : zPr zRfP z0 (fX11_makeOwnAdvert_70 N x0 x1 x2 x3 z) := by
  unfold fX11_makeOwnAdvert_70
  exact pX11_makeOwnAdvert_75  h
theorem pX11_makeOwnAdvert_41 {z0 z : St} {N : Nat} {x0 : Nat} {x1 : Nat} {x2 : Nat} {x3 : Nat} {x4 : Int32} (h : zEq zRfP z0 z) : zPr zRfP z0 (fX11_makeOwnAdvert_41 N x0 x1 x2 x3 x4 z) := by
  unfold fX11_makeOwnAdvert_41
  exact zp_i (pX11_makeOwnAdvert_70  h) (zp_i (pX11_makeOwnAdvert_70  h) (zp_i (pX11_makeOwnAdvert_75  h) (pX11_makeOwnAdvert_70  h)))
theorem pX11_makeOwnAdvert {z0 z : St} {N : Nat} {x0 : Nat} {x1 : Nat} (h : zEq zRfP z0 z) : zPr zRfP z0 (fX11_makeOwnAdvert N x0 x1 z) := by
  unfold fX11_makeOwnAdvert
  exact zp_l (fun y1 => zp_d (fun a2 => zp_l (fun y3 => zp_d (fun a4 => zp_k (zp_l (fun v6 => zp_i (pX11_makeOwnAdvert_41  h) (zp_i (pX11_makeOwnAdvert_41  h) (zp_s h))))))))
theorem pX11_addressToFriend {z0 z : St} {N : Nat} {x0 : Nat} {x1 : Nat} {x2 : Int32} (h : zEq zRfP z0 z) : zPr zRfP z0 (fX11_addressToFriend N x0 x1 x2 z) := by
  unfold fX11_addressToFriend
  exact zp_k (zp_l (fun y2 => zp_k (zp_l (fun y4 => zp_d (fun a5 => zp_l (fun y6 => zp_d (fun a7 => zp_d (fun a8 => zp_c (pX1_portOn  h) (fun r9 z10 h1 => zp_o (zp_s h1) (fun a14 => zp_l (fun y15 => zp_d (fun a16 => zp_lI h1 rfl (fun z17 h2 => zp_l (fun y18 => zp_d (fun a19 => zp_lI h2 rfl (fun z20 h3 => zp_l (fun y21 => zp_c (pX1_nextNumber  h3) (fun r22 z23 h4 => zp_d (fun a26 => zp_lI h4 rfl (fun z27 h5 => zp_s h5))))))))))))))))))))
theorem pX11_sendDue_127 {z0 z : St} {N : Nat} {K7 : Nat → Nat → Option Nat → Int32 → St → Option (Int32 × St)} {K26 : Nat → Nat → Nat → Int32 → Int32 → Int32 → St → Option (Int32 × St)} {x0 : Nat} {x1 : Nat} {x2 : Nat} {x3 : Int32} {x4 : Int32} {x5 : Int32} (hK7 : ∀ a0 a1 a2 a3 a4, zEq zRfP z0 a4 → zPr zRfP z0 (K7 a0 a1 a2 a3 a4)) (hK26 : ∀ a0 a1 a2 a3 a4 a5 a6, zEq zRfP z0 a6 → zPr zRfP z0 (K26 a0 a1 a2 a3 a4 a5 a6)) (h : zEq zRfP z0 z) : zPr zRfP z0 (fX11_sendDue_127 N K7 K26 x0 x1 x2 x3 x4 x5 z) := by
  unfold fX11_sendDue_127
  exact zp_l (fun v1 => hK26 _ _ _ _ _ _ _ h)
theorem pX11_sendDue_112 {z0 z : St} {N : Nat} {K7 : Nat → Nat → Option Nat → Int32 → St → Option (Int32 × St)} {K26 : Nat → Nat → Nat → Int32 → Int32 → Int32 → St → Option (Int32 × St)} {x0 : Nat} {x1 : Nat} {x2 : Nat} {x3 : Int32} {x4 : Int32} {x5 : Int32} (hK7 : ∀ a0 a1 a2 a3 a4, zEq zRfP z0 a4 → zPr zRfP z0 (K7 a0 a1 a2 a3 a4)) (hK26 : ∀ a0 a1 a2 a3 a4 a5 a6, zEq zRfP z0 a6 → zPr zRfP z0 (K26 a0 a1 a2 a3 a4 a5 a6)) (h : zEq zRfP z0 z) : zPr zRfP z0 (fX11_sendDue_112 N K7 K26 x0 x1 x2 x3 x4 x5 z) := by
  unfold fX11_sendDue_112
  exact zp_c (pX9_setDue  h) (fun _ z2 h1 => pX11_sendDue_127 hK7 hK26 h1)
theorem pX11_sendDue_26b {z0 z : St} {N : Nat} {K7 : Nat → Nat → Option Nat → Int32 → St → Option (Int32 × St)} {K26 : Nat → Nat → Nat → Int32 → Int32 → Int32 → St → Option (Int32 × St)} {x0 : Nat} {x1 : Nat} {x2 : Nat} {x3 : Int32} {x4 : Int32} {x5 : Int32} (hK7 : ∀ a0 a1 a2 a3 a4, zEq zRfP z0 a4 → zPr zRfP z0 (K7 a0 a1 a2 a3 a4)) (hK26 : ∀ a0 a1 a2 a3 a4 a5 a6, zEq zRfP z0 a6 → zPr zRfP z0 (K26 a0 a1 a2 a3 a4 a5 a6)) (h : zEq zRfP z0 z) : zPr zRfP z0 (fX11_sendDue_26b N K7 K26 x0 x1 x2 x3 x4 x5 z) := by
  unfold fX11_sendDue_26b
  exact zp_i (zp_l (fun v2 => hK7 _ _ _ _ _ h)) (zp_k (zp_k (zp_l (fun v5 => zp_i (pX11_sendDue_127 hK7 hK26 h) (zp_i (zp_l (fun y8 => zp_l (fun y9 => zp_d (fun a10 => zp_d (fun a11 => zp_c (pX0_putAdvert  h) (fun _ z13 h1 => zp_c (pX11_addressToFriend  h1) (fun r16 z17 h2 => zp_o (pX11_sendDue_112 hK7 hK26 h2) (fun a21 => zp_k (zp_l (fun y23 => zp_l (fun y24 => zp_d (fun a25 => zp_d (fun a26 => zp_c (pX11_hand  h2) (fun _ z28 h3 => pX11_sendDue_112 hK7 hK26 h3)))))))))))))) (pX11_sendDue_127 hK7 hK26 h))))))
theorem pX11_sendDue_26 {z0 : St} {N : Nat} {K7 : Nat → Nat → Option Nat → Int32 → St → Option (Int32 × St)} (hK7 : ∀ a0 a1 a2 a3 a4, zEq zRfP z0 a4 → zPr zRfP z0 (K7 a0 a1 a2 a3 a4)) : ∀ (n : Nat) (y0 : Nat) (y1 : Nat) (y2 : Nat) (y3 : Int32) (y4 : Int32) (y5 : Int32) (z : St), zEq zRfP z0 z → zPr zRfP z0 (fX11_sendDue_26 N K7 n y0 y1 y2 y3 y4 y5 z) := by
  intro n
  induction n with
  | zero => intro y0 y1 y2 y3 y4 y5 z h; exact zp_n
  | succ n ih => intro y0 y1 y2 y3 y4 y5 z h; exact pX11_sendDue_26b hK7 (fun _ _ _ _ _ _ _ h => ih _ _ _ _ _ _ _ h) h
theorem pX11_sendDue_7b {z0 z : St} {N : Nat} {K7 : Nat → Nat → Option Nat → Int32 → St → Option (Int32 × St)} {x0 : Nat} {x1 : Nat} {x2 : Option Nat} {x3 : Int32} (hK7 : ∀ a0 a1 a2 a3 a4, zEq zRfP z0 a4 → zPr zRfP z0 (K7 a0 a1 a2 a3 a4)) (h : zEq zRfP z0 z) : zPr zRfP z0 (fX11_sendDue_7b N K7 x0 x1 x2 x3 z) := by
  unfold fX11_sendDue_7b
  exact zp_d (fun a1 => zp_i (zp_s h) (zp_k (zp_l (fun v4 => pX11_sendDue_26 hK7 _ _ _ _ _ _ _ _ h))))
theorem pX11_sendDue_7 {z0 : St} {N : Nat} : ∀ (n : Nat) (y0 : Nat) (y1 : Nat) (y2 : Option Nat) (y3 : Int32) (z : St), zEq zRfP z0 z → zPr zRfP z0 (fX11_sendDue_7 N n y0 y1 y2 y3 z) := by
  intro n
  induction n with
  | zero => intro y0 y1 y2 y3 z h; exact zp_n
  | succ n ih => intro y0 y1 y2 y3 z h; exact pX11_sendDue_7b  (fun _ _ _ _ _ h => ih _ _ _ _ _ h) h
theorem pX11_sendDue {z0 z : St} {N : Nat} {x0 : Nat} {x1 : Nat} (h : zEq zRfP z0 z) : zPr zRfP z0 (fX11_sendDue N x0 x1 z) := by
  unfold fX11_sendDue
  exact zp_l (fun y1 => pX11_sendDue_7  _ _ _ _ _ _ h)
theorem pX11_sendGreetings_110 {z0 z : St} {N : Nat} {K7 : Nat → Nat → Option Nat → Int32 → St → Option (Int32 × St)} {K53 : Nat → Nat → Option Nat → Int32 → Nat → Int32 → Int32 → St → Option (Int32 × St)} {x0 : Nat} {x1 : Nat} {x2 : Nat} {x3 : Int32} {x4 : Nat} {x5 : Int32} {x6 : Int32} (hK7 : ∀ a0 a1 a2 a3 a4, zEq zRfP z0 a4 → zPr zRfP z0 (K7 a0 a1 a2 a3 a4)) (hK53 : ∀ a0 a1 a2 a3 a4 a5 a6 a7, zEq zRfP z0 a7 → zPr zRfP z0 (K53 a0 a1 a2 a3 a4 a5 a6 a7)) (h : zEq zRfP z0 z) : zPr zRfP z0 (fX11_sendGreetings_110 N K7 K53 x0 x1 x2 x3 x4 x5 x6 z) := by
  unfold fX11_sendGreetings_110
  exact zp_l (fun v1 => hK53 _ _ _ _ _ _ _ _ h)
theorem pX11_sendGreetings_194 {z0 z : St} {N : Nat} {K7 : Nat → Nat → Option Nat → Int32 → St → Option (Int32 × St)} {x0 : Nat} {x1 : Nat} {x2 : Option Nat} {x3 : Int32} (hK7 : ∀ a0 a1 a2 a3 a4, zEq zRfP z0 a4 → zPr zRfP z0 (K7 a0 a1 a2 a3 a4)) (h : zEq zRfP z0 z) : zPr zRfP z0 (fX11_sendGreetings_194 N K7 x0 x1 x2 x3 z) := by
  unfold fX11_sendGreetings_194
  exact zp_l (fun v1 => hK7 _ _ _ _ _ h)
theorem pX11_sendGreetings_53b {z0 z : St} {N : Nat} {K7 : Nat → Nat → Option Nat → Int32 → St → Option (Int32 × St)} {K53 : Nat → Nat → Option Nat → Int32 → Nat → Int32 → Int32 → St → Option (Int32 × St)} {x0 : Nat} {x1 : Nat} {x2 : Option Nat} {x3 : Int32} {x4 : Nat} {x5 : Int32} {x6 : Int32} (hK7 : ∀ a0 a1 a2 a3 a4, zEq zRfP z0 a4 → zPr zRfP z0 (K7 a0 a1 a2 a3 a4)) (hK53 : ∀ a0 a1 a2 a3 a4 a5 a6 a7, zEq zRfP z0 a7 → zPr zRfP z0 (K53 a0 a1 a2 a3 a4 a5 a6 a7)) (h : zEq zRfP z0 z) : zPr zRfP z0 (fX11_sendGreetings_53b N K7 K53 x0 x1 x2 x3 x4 x5 x6 z) := by
  unfold fX11_sendGreetings_53b
  exact zp_d (fun a1 => zp_i (zp_l (fun y3 => zp_d (fun a4 => zp_c (pX7_put2  h) (fun _ z6 h1 => zp_l (fun y9 => zp_d (fun a10 => zp_c (pX7_put2  h1) (fun _ z12 h2 => zp_l (fun y15 => zp_d (fun a16 => zp_c (pX7_setLength  h2) (fun _ z18 h3 => zp_l (fun y21 => zp_d (fun a22 => zp_lI h3 rfl (fun z23 h4 => zp_l (fun y24 => zp_d (fun a25 => zp_lI h4 rfl (fun z26 h5 => zp_l (fun y27 => zp_c (pX1_nextNumber  h5) (fun r28 z29 h6 => zp_d (fun a32 => zp_lI h6 rfl (fun z33 h7 => zp_l (fun y34 => zp_d (fun a35 => zp_c (pX11_putOn  h7) (fun _ z37 h8 => pX11_sendGreetings_194 hK7 h8))))))))))))))))))))))) (zp_k (zp_i (zp_l (fun y42 => zp_k (zp_d (fun a44 => zp_c (pX7_put2  h) (fun _ z46 h9 => zp_l (fun v49 => pX11_sendGreetings_110 hK7 hK53 h9)))))) (pX11_sendGreetings_110 hK7 hK53 h))))
theorem pX11_sendGreetings_53 {z0 : St} {N : Nat} {K7 : Nat → Nat → Option Nat → Int32 → St → Option (Int32 × St)} (hK7 : ∀ a0 a1 a2 a3 a4, zEq zRfP z0 a4 → zPr zRfP z0 (K7 a0 a1 a2 a3 a4)) : ∀ (n : Nat) (y0 : Nat) (y1 : Nat) (y2 : Option Nat) (y3 : Int32) (y4 : Nat) (y5 : Int32) (y6 : Int32) (z : St), zEq zRfP z0 z → zPr zRfP z0 (fX11_sendGreetings_53 N K7 n y0 y1 y2 y3 y4 y5 y6 z) := by
  intro n
  induction n with
  | zero => intro y0 y1 y2 y3 y4 y5 y6 z h; exact zp_n
  | succ n ih => intro y0 y1 y2 y3 y4 y5 y6 z h; exact pX11_sendGreetings_53b hK7 (fun _ _ _ _ _ _ _ _ h => ih _ _ _ _ _ _ _ _ h) h
theorem pX11_sendGreetings_7b {z0 z : St} {N : Nat} {K7 : Nat → Nat → Option Nat → Int32 → St → Option (Int32 × St)} {x0 : Nat} {x1 : Nat} {x2 : Option Nat} {x3 : Int32} (hK7 : ∀ a0 a1 a2 a3 a4, zEq zRfP z0 a4 → zPr zRfP z0 (K7 a0 a1 a2 a3 a4)) (h : zEq zRfP z0 z) : zPr zRfP z0 (fX11_sendGreetings_7b N K7 x0 x1 x2 x3 z) := by
  unfold fX11_sendGreetings_7b
  exact zp_i (zp_s h) (zp_k (zp_l (fun y3 => zp_d (fun a4 => zp_l (fun y5 => zp_d (fun a6 => zp_i (zp_l (fun y8 => zp_d (fun a9 => zp_c (pX7_begin  h) (fun _ z11 h1 => pX11_sendGreetings_53 hK7 _ _ _ _ _ _ _ _ _ h1)))) (pX11_sendGreetings_194 hK7 h)))))))
theorem pX11_sendGreetings_7 {z0 : St} {N : Nat} : ∀ (n : Nat) (y0 : Nat) (y1 : Nat) (y2 : Option Nat) (y3 : Int32) (z : St), zEq zRfP z0 z → zPr zRfP z0 (fX11_sendGreetings_7 N n y0 y1 y2 y3 z) := by
  intro n
  induction n with
  | zero => intro y0 y1 y2 y3 z h; exact zp_n
  | succ n ih => intro y0 y1 y2 y3 z h; exact pX11_sendGreetings_7b  (fun _ _ _ _ _ h => ih _ _ _ _ _ h) h
theorem pX11_sendGreetings {z0 z : St} {N : Nat} {x0 : Nat} {x1 : Nat} (h : zEq zRfP z0 z) : zPr zRfP z0 (fX11_sendGreetings N x0 x1 z) := by
  unfold fX11_sendGreetings
  exact zp_l (fun y1 => pX11_sendGreetings_7  _ _ _ _ _ _ h)
theorem pX11_sendThanks_98 {z0 z : St} {N : Nat} {K7 : Nat → Nat → Option Nat → Int32 → St → Option (Int32 × St)} {x0 : Nat} {x1 : Nat} {x2 : Nat} {x3 : Int32} (hK7 : ∀ a0 a1 a2 a3 a4, zEq zRfP z0 a4 → zPr zRfP z0 (K7 a0 a1 a2 a3 a4)) (h : zEq zRfP z0 z) : zPr zRfP z0 (fX11_sendThanks_98 N K7 x0 x1 x2 x3 z) := by
  unfold fX11_sendThanks_98
  exact zp_l (fun v1 => hK7 _ _ _ _ _ h)
theorem pX11_sendThanks_7b {z0 z : St} {N : Nat} {K7 : Nat → Nat → Option Nat → Int32 → St → Option (Int32 × St)} {x0 : Nat} {x1 : Nat} {x2 : Option Nat} {x3 : Int32} (hK7 : ∀ a0 a1 a2 a3 a4, zEq zRfP z0 a4 → zPr zRfP z0 (K7 a0 a1 a2 a3 a4)) (h : zEq zRfP z0 z) : zPr zRfP z0 (fX11_sendThanks_7b N K7 x0 x1 x2 x3 z) := by
  unfold fX11_sendThanks_7b
  exact zp_d (fun a1 => zp_i (zp_lI h rfl (fun z3 h1 => zp_s h1)) (zp_l (fun y4 => zp_d (fun a5 => zp_c (pX7_begin  h) (fun _ z7 h2 => zp_l (fun y10 => zp_k (zp_d (fun a12 => zp_c (pX7_put2  h2) (fun _ z14 h3 => zp_l (fun y17 => zp_k (zp_d (fun a19 => zp_c (pX7_put4  h3) (fun _ z21 h4 => zp_k (zp_c (pX11_addressToFriend  h4) (fun r25 z26 h5 => zp_o (pX11_sendThanks_98 hK7 h5) (fun a30 => zp_k (zp_k (zp_l (fun y33 => zp_l (fun y34 => zp_d (fun a35 => zp_d (fun a36 => zp_c (pX11_hand  h5) (fun _ z38 h6 => pX11_sendThanks_98 hK7 h6)))))))))))))))))))))))
theorem pX11_sendThanks_7 {z0 : St} {N : Nat} : ∀ (n : Nat) (y0 : Nat) (y1 : Nat) (y2 : Option Nat) (y3 : Int32) (z : St), zEq zRfP z0 z → zPr zRfP z0 (fX11_sendThanks_7 N n y0 y1 y2 y3 z) := by
  intro n
  induction n with
  | zero => intro y0 y1 y2 y3 z h; exact zp_n
  | succ n ih => intro y0 y1 y2 y3 z h; exact pX11_sendThanks_7b  (fun _ _ _ _ _ h => ih _ _ _ _ _ h) h
theorem pX11_sendThanks {z0 z : St} {N : Nat} {x0 : Nat} {x1 : Nat} (h : zEq zRfP z0 z) : zPr zRfP z0 (fX11_sendThanks N x0 x1 z) := by
  unfold fX11_sendThanks
  exact zp_l (fun y1 => pX11_sendThanks_7  _ _ _ _ _ _ h)
theorem pX11_doRouter_97 {z0 z : St} {N : Nat} {K47 : Nat → Nat → Nat → Option Nat → Int32 → St → Option (Int32 × St)} {x0 : Nat} {x1 : Nat} {x2 : Nat} {x3 : Nat} {x4 : Int32} (hK47 : ∀ a0 a1 a2 a3 a4 a5, zEq zRfP z0 a5 → zPr zRfP z0 (K47 a0 a1 a2 a3 a4 a5)) (h : zEq zRfP z0 z) : zPr zRfP z0 (fX11_doRouter_97 N K47 x0 x1 x2 x3 x4 z) := by
  unfold fX11_doRouter_97
  exact zp_l (fun v1 => hK47 _ _ _ _ _ _ h)
theorem pX11_doRouter_147 {z0 z : St} {N : Nat} {x0 : Nat} {x1 : Nat} {x3 : Option Nat} (h : zEq zRfP z0 z) : zPr zRfP z0 (fX11_doRouter_147 N x0 x1 x3 z) := by
  unfold fX11_doRouter_147
  exact zp_d (fun a1 => zp_i (zp_s h) (zp_c (pX0_findWays  h) (fun _ z4 h1 => zp_s h1)))
theorem pX11_doRouter_135 {z0 z : St} {N : Nat} {x0 : Nat} {x1 : Nat} {x2 : Nat} {x3 : Option Nat} (h : zEq zRfP z0 z) : zPr zRfP z0 (fX11_doRouter_135 N x0 x1 x2 x3 z) := by
  unfold fX11_doRouter_135
  exact zp_i (pX11_doRouter_147  h) (zp_c (pX11_sendDue  h) (fun _ z3 h1 => pX11_doRouter_147  h1))
theorem pX11_doRouter_123 {z0 z : St} {N : Nat} {x0 : Nat} {x1 : Nat} {x2 : Nat} {x3 : Option Nat} (h : zEq zRfP z0 z) : zPr zRfP z0 (fX11_doRouter_123 N x0 x1 x2 x3 z) := by
  unfold fX11_doRouter_123
  exact zp_i (pX11_doRouter_135  h) (zp_c (pX11_sendThanks  h) (fun _ z3 h1 => pX11_doRouter_135  h1))
theorem pX11_doRouter_47b {z0 z : St} {N : Nat} {K47 : Nat → Nat → Nat → Option Nat → Int32 → St → Option (Int32 × St)} {x0 : Nat} {x1 : Nat} {x2 : Nat} {x3 : Option Nat} {x4 : Int32} (hK47 : ∀ a0 a1 a2 a3 a4 a5, zEq zRfP z0 a5 → zPr zRfP z0 (K47 a0 a1 a2 a3 a4 a5)) (h : zEq zRfP z0 z) : zPr zRfP z0 (fX11_doRouter_47b N K47 x0 x1 x2 x3 x4 z) := by
  unfold fX11_doRouter_47b
  exact zp_i (zp_c (pX11_makeOwnAdvert  h) (fun _ z3 h1 => zp_i (pX11_doRouter_123  h1) (zp_c (pX11_sendGreetings  h1) (fun _ z8 h2 => pX11_doRouter_123  h2)))) (zp_d (fun a11 => zp_k (zp_i (pX11_doRouter_97 hK47 h) (zp_k (zp_i (zp_c (pX0_takeOut  h) (fun _ z17 h3 => zp_c (pX9_clearDueOf  h3) (fun _ z21 h4 => pX11_doRouter_97 hK47 h4))) (pX11_doRouter_97 hK47 h))))))
theorem pX11_doRouter_47 {z0 : St} {N : Nat} : ∀ (n : Nat) (y0 : Nat) (y1 : Nat) (y2 : Nat) (y3 : Option Nat) (y4 : Int32) (z : St), zEq zRfP z0 z → zPr zRfP z0 (fX11_doRouter_47 N n y0 y1 y2 y3 y4 z) := by
  intro n
  induction n with
  | zero => intro y0 y1 y2 y3 y4 z h; exact zp_n
  | succ n ih => intro y0 y1 y2 y3 y4 z h; exact pX11_doRouter_47b  (fun _ _ _ _ _ _ h => ih _ _ _ _ _ _ h) h
theorem pX11_doRouter_39 {z0 z : St} {N : Nat} {x0 : Nat} {x1 : Nat} {x2 : Nat} {x3 : Option Nat} (h : zEq zRfP z0 z) : zPr zRfP z0 (fX11_doRouter_39 N x0 x1 x2 x3 z) := by
  unfold fX11_doRouter_39
  exact zp_c (pX11_forgetSilent  h) (fun _ z2 h1 => pX11_doRouter_47  _ _ _ _ _ _ _ h1)
theorem pX11_doRouter {z0 z : St} {N : Nat} {x0 : Nat} {x1 : Nat} (h : zEq zRfP z0 z) : zPr zRfP z0 (fX11_doRouter N x0 x1 z) := by
  unfold fX11_doRouter
  exact zp_l (fun y1 => zp_d (fun a2 => zp_l (fun y3 => zp_i (pX11_doRouter_39  h) (zp_lI h rfl (fun z5 h1 => zp_lI h1 rfl (fun z6 h2 => zp_d (fun a7 => zp_lI h2 rfl (fun z8 h3 => pX11_doRouter_39  h3))))))))
theorem pX11_addressSegment_23 {z0 z : St} {N : Nat} {x0 : Nat} {x1 : Nat} {x2 : Nat} {s0 : Option Nat} {s1 : Int32} (h : zEq zRfP z0 z) : zPr zRfP z0 (fX11_addressSegment_23 N x0 x1 x2 s0 s1 z) := by
  unfold fX11_addressSegment_23
  exact zp_d (fun a1 => zp_lI h rfl (fun z2 h1 => zp_l (fun y3 => zp_d (fun a4 => zp_lI h1 rfl (fun z5 h2 => zp_l (fun y6 => zp_d (fun a7 => zp_c (pX7_put2  h2) (fun _ z9 h3 => zp_l (fun y12 => zp_d (fun a13 => zp_c (pX7_put2  h3) (fun _ z15 h4 => zp_l (fun y18 => zp_c (pX1_nextNumber  h4) (fun r19 z20 h5 => zp_d (fun a23 => zp_lI h5 rfl (fun z24 h6 => zp_l (fun y25 => zp_l (fun y26 => zp_d (fun a27 => zp_d (fun a28 => zp_lI h6 rfl (fun z29 h7 => zp_s h7))))))))))))))))))))
theorem pX11_addressSegment {z0 z : St} {N : Nat} {x0 : Nat} {x1 : Nat} {x2 : Nat} (h : zEq zRfP z0 z) : zPr zRfP z0 (fX11_addressSegment N x0 x1 x2 z) := by
  unfold fX11_addressSegment
  exact zp_k (zp_l (fun y2 => zp_l (fun y3 => zp_o (pX11_addressSegment_23  h) (fun a5 => pX11_addressSegment_23  h))))
theorem pX11_nextWritten_153 {z0 z : St} {N : Nat} {K5 : Nat → Nat → Int32 → St → Option (Int32 × St)} {x0 : Nat} {x1 : Nat} {x2 : Int32} (hK5 : ∀ a0 a1 a2 a3, zEq zRfP z0 a3 → zPr zRfP z0 (K5 a0 a1 a2 a3)) (h : zEq zRfP z0 z) : zPr zRfP z0 (fX11_nextWritten_153 N K5 x0 x1 x2 z) := by
  unfold fX11_nextWritten_153
  exact zp_l (fun v1 => hK5 _ _ _ _ h)
theorem pX11_nextWritten_31 {z0 z : St} {N : Nat} {K5 : Nat → Nat → Int32 → St → Option (Int32 × St)} {x0 : Nat} {x1 : Nat} {x2 : Int32} (hK5 : ∀ a0 a1 a2 a3, zEq zRfP z0 a3 → zPr zRfP z0 (K5 a0 a1 a2 a3)) (h : zEq zRfP z0 z) : zPr zRfP z0 (fX11_nextWritten_31 N K5 x0 x1 x2 z) := by
  unfold fX11_nextWritten_31
  exact zp_k (zp_l (fun v2 => zp_k (zp_l (fun y4 => zp_d (fun a5 => zp_i (pX11_nextWritten_153 hK5 h) (zp_i (zp_l (fun v8 => zp_lI h rfl (fun z9 h1 => zp_k (zp_i (zp_k (zp_l (fun v13 => zp_k (zp_s h1)))) (zp_k (zp_s h1)))))) (pX11_nextWritten_153 hK5 h)))))))
theorem pX11_nextWritten_5b {z0 z : St} {N : Nat} {K5 : Nat → Nat → Int32 → St → Option (Int32 × St)} {x0 : Nat} {x1 : Nat} {x2 : Int32} (hK5 : ∀ a0 a1 a2 a3, zEq zRfP z0 a3 → zPr zRfP z0 (K5 a0 a1 a2 a3)) (h : zEq zRfP z0 z) : zPr zRfP z0 (fX11_nextWritten_5b N K5 x0 x1 x2 z) := by
  unfold fX11_nextWritten_5b
  exact zp_i (zp_s h) (zp_i (pX11_nextWritten_31 hK5 h) (zp_lI h rfl (fun z3 h1 => zp_lI h1 rfl (fun z4 h2 => pX11_nextWritten_31 hK5 h2))))
theorem pX11_nextWritten_5 {z0 : St} {N : Nat} : ∀ (n : Nat) (y0 : Nat) (y1 : Nat) (y2 : Int32) (z : St), zEq zRfP z0 z → zPr zRfP z0 (fX11_nextWritten_5 N n y0 y1 y2 z) := by
  intro n
  induction n with
  | zero => intro y0 y1 y2 z h; exact zp_n
  | succ n ih => intro y0 y1 y2 z h; exact pX11_nextWritten_5b  (fun _ _ _ _ h => ih _ _ _ _ h) h
theorem pX11_nextWritten {z0 z : St} {N : Nat} {x0 : Nat} {x1 : Nat} (h : zEq zRfP z0 z) : zPr zRfP z0 (fX11_nextWritten N x0 x1 z) := by
  unfold fX11_nextWritten
  exact zp_l (fun v1 => pX11_nextWritten_5  _ _ _ _ _ h)
theorem pX11_takeByte {z0 z : St} {N : Nat} {x0 : Nat} {x1 : Nat} (h : zEq zRfP z0 z) : zPr zRfP z0 (fX11_takeByte N x0 x1 z) := by
  unfold fX11_takeByte
  exact zp_l (fun y1 => zp_d (fun a2 => zp_c (pX3_takeByte  h) (fun r3 z4 h1 => zp_c (pX11_nextWritten  h1) (fun r7 z8 h2 => zp_i (zp_s h2) (zp_lI h2 rfl (fun z12 h3 => zp_s h3))))))
theorem pX11_settle_106 {z0 z : St} {N : Nat} {x1 : Nat} (h : zEq zRfP z0 z) : zPr zRfP z0 (fX11_settle_106 N x1 z) := by
  unfold fX11_settle_106
  exact zp_c (pX2_setUnused  h) (fun _ z2 h1 => zp_s h1)
theorem pX11_settle_68 {z0 z : St} {N : Nat} {x0 : Nat} {x1 : Nat} {x2 : Nat} (h : zEq zRfP z0 z) : zPr zRfP z0 (fX11_settle_68 N x0 x1 x2 z) := by
  unfold fX11_settle_68
  exact zp_c (pX3_armProbe  h) (fun _ z2 h1 => zp_i (zp_i (pX11_settle_106  h1) (zp_c (pX3_isDead  h1) (fun r7 z8 h2 => zp_i (zp_s h2) (zp_i (zp_s h2) (pX11_settle_106  h2))))) (zp_s h1))
theorem pX11_settle_54 {z0 z : St} {N : Nat} {x0 : Nat} {x1 : Nat} {x2 : Option Nat} (h : zEq zRfP z0 z) : zPr zRfP z0 (fX11_settle_54 N x0 x1 x2 z) := by
  unfold fX11_settle_54
  exact zp_d (fun a1 => zp_l (fun y2 => zp_d (fun a3 => zp_i (pX11_settle_68  h) (zp_c (pX11_stir  h) (fun _ z6 h1 => pX11_settle_68  h1)))))
theorem pX11_settle_14b {z0 z : St} {N : Nat} {K14 : Nat → Nat → Option Nat → Int32 → St → Option (Int32 × St)} {x0 : Nat} {x1 : Nat} {x2 : Option Nat} {x3 : Int32} (hK14 : ∀ a0 a1 a2 a3 a4, zEq zRfP z0 a4 → zPr zRfP z0 (K14 a0 a1 a2 a3 a4)) (h : zEq zRfP z0 z) : zPr zRfP z0 (fX11_settle_14b N K14 x0 x1 x2 x3 z) := by
  unfold fX11_settle_14b
  exact zp_i (pX11_settle_54  h) (zp_d (fun a2 => zp_l (fun y3 => zp_d (fun a4 => zp_i (pX11_settle_54  h) (zp_c (pX11_takeByte  h) (fun r6 z7 h1 => zp_lI h1 rfl (fun z10 h2 => zp_l (fun v11 => hK14 _ _ _ _ _ h2))))))))
theorem pX11_settle_14 {z0 : St} {N : Nat} : ∀ (n : Nat) (y0 : Nat) (y1 : Nat) (y2 : Option Nat) (y3 : Int32) (z : St), zEq zRfP z0 z → zPr zRfP z0 (fX11_settle_14 N n y0 y1 y2 y3 z) := by
  intro n
  induction n with
  | zero => intro y0 y1 y2 y3 z h; exact zp_n
  | succ n ih => intro y0 y1 y2 y3 z h; exact pX11_settle_14b  (fun _ _ _ _ _ h => ih _ _ _ _ _ h) h
theorem pX11_settle {z0 z : St} {N : Nat} {x0 : Nat} {x1 : Nat} (h : zEq zRfP z0 z) : zPr zRfP z0 (fX11_settle N x0 x1 z) := by
  unfold fX11_settle
  exact zp_l (fun y1 => zp_i (pX11_settle_54  h) (pX11_settle_14  _ _ _ _ _ _ h))
theorem pX11_doHost_97 {z0 z : St} {N : Nat} {K2 : Nat → Nat → Int32 → St → Option (Int32 × St)} {x0 : Nat} {x1 : Nat} {x2 : Int32} (hK2 : ∀ a0 a1 a2 a3, zEq zRfP z0 a3 → zPr zRfP z0 (K2 a0 a1 a2 a3)) (h : zEq zRfP z0 z) : zPr zRfP z0 (fX11_doHost_97 N K2 x0 x1 x2 z) := by
  unfold fX11_doHost_97
  exact zp_l (fun v1 => hK2 _ _ _ _ h)
theorem pX11_doHost_92 {z0 z : St} {N : Nat} {K2 : Nat → Nat → Int32 → St → Option (Int32 × St)} {x0 : Nat} {x1 : Nat} {x2 : Int32} {x3 : Nat} (hK2 : ∀ a0 a1 a2 a3, zEq zRfP z0 a3 → zPr zRfP z0 (K2 a0 a1 a2 a3)) (h : zEq zRfP z0 z) : zPr zRfP z0 (fX11_doHost_92 N K2 x0 x1 x2 x3 z) := by
  unfold fX11_doHost_92
  exact zp_c (pX11_settle  h) (fun _ z2 h1 => pX11_doHost_97 hK2 h1)
theorem pX11_doHost_44b {z0 z : St} {N : Nat} {K2 : Nat → Nat → Int32 → St → Option (Int32 × St)} {K44 : Nat → Nat → Int32 → Nat → Nat → Int32 → St → Option (Int32 × St)} {x0 : Nat} {x1 : Nat} {x2 : Int32} {x3 : Nat} {x4 : Nat} {x5 : Int32} (hK2 : ∀ a0 a1 a2 a3, zEq zRfP z0 a3 → zPr zRfP z0 (K2 a0 a1 a2 a3)) (hK44 : ∀ a0 a1 a2 a3 a4 a5 a6, zEq zRfP z0 a6 → zPr zRfP z0 (K44 a0 a1 a2 a3 a4 a5 a6)) (h : zEq zRfP z0 z) : zPr zRfP z0 (fX11_doHost_44b N K2 K44 x0 x1 x2 x3 x4 x5 z) := by
  unfold fX11_doHost_44b
  exact zp_i (pX11_doHost_92 hK2 h) (zp_l (fun y2 => zp_d (fun a3 => zp_c (pX3_makeNext  h) (fun r4 z5 h1 => zp_i (zp_c (pX11_addressSegment  h1) (fun _ z10 h2 => zp_l (fun y13 => zp_d (fun a14 => zp_c (pX11_sendOff  h2) (fun _ z16 h3 => zp_l (fun v19 => hK44 _ _ _ _ _ _ _ h3)))))) (pX11_doHost_92 hK2 h1)))))
theorem pX11_doHost_44 {z0 : St} {N : Nat} {K2 : Nat → Nat → Int32 → St → Option (Int32 × St)} (hK2 : ∀ a0 a1 a2 a3, zEq zRfP z0 a3 → zPr zRfP z0 (K2 a0 a1 a2 a3)) : ∀ (n : Nat) (y0 : Nat) (y1 : Nat) (y2 : Int32) (y3 : Nat) (y4 : Nat) (y5 : Int32) (z : St), zEq zRfP z0 z → zPr zRfP z0 (fX11_doHost_44 N K2 n y0 y1 y2 y3 y4 y5 z) := by
  intro n
  induction n with
  | zero => intro y0 y1 y2 y3 y4 y5 z h; exact zp_n
  | succ n ih => intro y0 y1 y2 y3 y4 y5 z h; exact pX11_doHost_44b hK2 (fun _ _ _ _ _ _ _ h => ih _ _ _ _ _ _ _ h) h
theorem pX11_doHost_2b {z0 z : St} {N : Nat} {K2 : Nat → Nat → Int32 → St → Option (Int32 × St)} {x0 : Nat} {x1 : Nat} {x2 : Int32} (hK2 : ∀ a0 a1 a2 a3, zEq zRfP z0 a3 → zPr zRfP z0 (K2 a0 a1 a2 a3)) (h : zEq zRfP z0 z) : zPr zRfP z0 (fX11_doHost_2b N K2 x0 x1 x2 z) := by
  unfold fX11_doHost_2b
  exact zp_i (zp_s h) (zp_k (zp_l (fun y3 => zp_d (fun a4 => zp_i (zp_l (fun y6 => zp_d (fun a7 => zp_c (pX3_ring  h) (fun _ z9 h1 => pX11_doHost_44 hK2 _ _ _ _ _ _ _ _ h1)))) (pX11_doHost_97 hK2 h)))))
theorem pX11_doHost_2 {z0 : St} {N : Nat} : ∀ (n : Nat) (y0 : Nat) (y1 : Nat) (y2 : Int32) (z : St), zEq zRfP z0 z → zPr zRfP z0 (fX11_doHost_2 N n y0 y1 y2 z) := by
  intro n
  induction n with
  | zero => intro y0 y1 y2 z h; exact zp_n
  | succ n ih => intro y0 y1 y2 z h; exact pX11_doHost_2b  (fun _ _ _ _ h => ih _ _ _ _ h) h
theorem pX11_doHost {z0 z : St} {N : Nat} {x0 : Nat} {x1 : Nat} (h : zEq zRfP z0 z) : zPr zRfP z0 (fX11_doHost N x0 x1 z) := by
  unfold fX11_doHost
  exact pX11_doHost_2  _ _ _ _ _ h
theorem pX11_abandonThrough_70 {z0 z : St} {N : Nat} {K2 : Nat → Int32 → Int32 → St → Option (Int32 × St)} {x1 : Nat} {x2 : Int32} {x3 : Int32} (hK2 : ∀ a0 a1 a2 a3, zEq zRfP z0 a3 → zPr zRfP z0 (K2 a0 a1 a2 a3)) (h : zEq zRfP z0 z) : zPr zRfP z0 (fX11_abandonThrough_70 N K2 x1 x2 x3 z) := by
  unfold fX11_abandonThrough_70
  exact zp_l (fun v1 => hK2 _ _ _ _ h)
theorem pX11_abandonThrough_2b {z0 z : St} {N : Nat} {K2 : Nat → Int32 → Int32 → St → Option (Int32 × St)} {x1 : Nat} {x2 : Int32} {x3 : Int32} (hK2 : ∀ a0 a1 a2 a3, zEq zRfP z0 a3 → zPr zRfP z0 (K2 a0 a1 a2 a3)) (h : zEq zRfP z0 z) : zPr zRfP z0 (fX11_abandonThrough_2b N K2 x1 x2 x3 z) := by
  unfold fX11_abandonThrough_2b
  exact zp_i (zp_s h) (zp_k (zp_l (fun y3 => zp_d (fun a4 => zp_i (pX11_abandonThrough_70 hK2 h) (zp_i (zp_lI h rfl (fun z7 h1 => zp_i (pX11_abandonThrough_70 hK2 h1) (zp_l (fun y9 => zp_d (fun a10 => zp_c (pX3_isDead  h1) (fun r11 z12 h2 => zp_i (pX11_abandonThrough_70 hK2 h2) (zp_l (fun y16 => zp_d (fun a17 => zp_c (pX3_abortByOwner  h2) (fun _ z19 h3 => pX11_abandonThrough_70 hK2 h3)))))))))) (pX11_abandonThrough_70 hK2 h))))))
theorem pX11_abandonThrough_2 {z0 : St} {N : Nat} : ∀ (n : Nat) (y0 : Nat) (y1 : Int32) (y2 : Int32) (z : St), zEq zRfP z0 z → zPr zRfP z0 (fX11_abandonThrough_2 N n y0 y1 y2 z) := by
  intro n
  induction n with
  | zero => intro y0 y1 y2 z h; exact zp_n
  | succ n ih => intro y0 y1 y2 z h; exact pX11_abandonThrough_2b  (fun _ _ _ _ h => ih _ _ _ _ h) h
theorem pX11_abandonThrough {z0 z : St} {N : Nat} {x0 : Nat} {x1 : Nat} {x2 : Int32} (h : zEq zRfP z0 z) : zPr zRfP z0 (fX11_abandonThrough N x0 x1 x2 z) := by
  unfold fX11_abandonThrough
  exact pX11_abandonThrough_2  _ _ _ _ _ h
theorem pX11_wroteTo {z0 z : St} {N : Nat} {x0 : Nat} {x1 : Nat} (h : zEq zRfP z0 z) : zPr zRfP z0 (fX11_wroteTo N x0 x1 z) := by
  unfold fX11_wroteTo
  exact zp_l (fun y1 => zp_d (fun a2 => zp_c (pX3_armProbe  h) (fun _ z4 h1 => zp_c (pX11_stir  h1) (fun _ z8 h2 => zp_s h2))))
theorem pX11_noteWriting {z0 z : St} {N : Nat} {x0 : Nat} {x1 : Nat} {x2 : Int32} {x3 : Int64} (h : zEq zRfP z0 z) : zPr zRfP z0 (fX11_noteWriting N x0 x1 x2 x3 z) := by
  unfold fX11_noteWriting
  exact zp_i (zp_k (zp_lA h rfl (fun z3 h1 => zp_k (zp_lA h1 rfl (fun z5 h2 => zp_k (zp_lL h2 rfl (fun z7 h3 => zp_lI h3 rfl (fun z8 h4 => zp_s h4)))))))) (zp_s h)
theorem pX14_begin_79b {z0 z : St} {N : Nat} {K79 : Nat → Int32 → St → Option (Int32 × St)} {x0 : Nat} {x3 : Int32} (hK79 : ∀ a0 a1 a2, zEq zClP z0 a2 → zPr zClP z0 (K79 a0 a1 a2)) (h : zEq zClP z0 z) : zPr zClP z0 (fX14_begin_79b N K79 x0 x3 z) := by
  unfold fX14_begin_79b
  exact zp_i (zp_lI h rfl (fun z2 h1 => zp_lI h1 rfl (fun z3 h2 => zp_lI h2 rfl (fun z4 h3 => zp_lI h3 rfl (fun z5 h4 => zp_lI h4 rfl (fun z6 h5 => zp_lI h5 rfl (fun z7 h6 => zp_lI h6 rfl (fun z8 h7 => zp_lI h7 rfl (fun z9 h8 => zp_lI h8 rfl (fun z10 h9 => zp_lI h9 rfl (fun z11 h10 => zp_lI h10 rfl (fun z12 h11 => zp_lI h11 rfl (fun z13 h12 => zp_lI h12 rfl (fun z14 h13 => zp_lI h13 rfl (fun z15 h14 => zp_lI h14 rfl (fun z16 h15 => zp_lI h15 rfl (fun z17 h16 => zp_s h16))))))))))))))))) (zp_k (zp_lA h rfl (fun z19 h17 => zp_l (fun v20 => hK79 _ _ _ h17))))
theorem pX14_begin_79 {z0 : St} {N : Nat} : ∀ (n : Nat) (y0 : Nat) (y1 : Int32) (z : St), zEq zClP z0 z → zPr zClP z0 (fX14_begin_79 N n y0 y1 z) := by
  intro n
  induction n with
  | zero => intro y0 y1 z h; exact zp_n
  | succ n ih => intro y0 y1 z h; exact pX14_begin_79b  (fun _ _ _ h => ih _ _ _ h) h
theorem pX14_begin {z0 z : St} {N : Nat} {x0 : Nat} {x1 : Int32} {x2 : Int32} (h : zEq zClP z0 z) : zPr zClP z0 (fX14_begin N x0 x1 x2 z) := by
  unfold fX14_begin
  exact zp_lI h rfl (fun z1 h1 => zp_lI h1 rfl (fun z2 h2 => zp_lI h2 rfl (fun z3 h3 => zp_lI h3 rfl (fun z4 h4 => zp_lI h4 rfl (fun z5 h5 => zp_lI h5 rfl (fun z6 h6 => zp_lI h6 rfl (fun z7 h7 => zp_lI h7 rfl (fun z8 h8 => zp_lI h8 rfl (fun z9 h9 => zp_lI h9 rfl (fun z10 h10 => zp_lI h10 rfl (fun z11 h11 => zp_lI h11 rfl (fun z12 h12 => zp_lI h12 rfl (fun z13 h13 => zp_lI h13 rfl (fun z14 h14 => zp_lI h14 rfl (fun z15 h15 => pX14_begin_79  _ _ _ _ h15)))))))))))))))
theorem pX14_readable_27 {z0 z : St} {N : Nat} {x0 : Nat} {s0 : Int32} (h : zEq zClP z0 z) : zPr zClP z0 (fX14_readable_27 N x0 s0 z) := by
  unfold fX14_readable_27
  exact zp_s h
theorem pX14_readable {z0 z : St} {N : Nat} {x0 : Nat} (h : zEq zClP z0 z) : zPr zClP z0 (fX14_readable N x0 z) := by
  unfold fX14_readable
  exact zp_i (zp_s h) (zp_i (pX14_readable_27  h) (pX14_readable_27  h))
theorem pX14_room {z0 z : St} {N : Nat} {x0 : Nat} (h : zEq zClP z0 z) : zPr zClP z0 (fX14_room N x0 z) := by
  unfold fX14_room
  exact zp_c (pX14_readable  h) (fun r1 z2 h1 => zp_s h1)
theorem pX19_isBefore {z0 z : St} {N : Nat} {x0 : Int32} {x1 : Int32} (h : zEq zClP z0 z) : zPr zClP z0 (fX19_isBefore N x0 x1 z) := by
  unfold fX19_isBefore
  exact zp_i (zp_s h) (zp_s h)
theorem pX14_unthanked_29 {z0 z : St} {N : Nat} {x0 : Nat} {s0 : Int32} (h : zEq zClP z0 z) : zPr zClP z0 (fX14_unthanked_29 N x0 s0 z) := by
  unfold fX14_unthanked_29
  exact zp_c (pX19_isBefore  h) (fun r1 z2 h1 => zp_i (zp_s h1) (zp_s h1))
theorem pX14_unthanked {z0 z : St} {N : Nat} {x0 : Nat} (h : zEq zClP z0 z) : zPr zClP z0 (fX14_unthanked N x0 z) := by
  unfold fX14_unthanked
  exact zp_c (pX19_isBefore  h) (fun r1 z2 h1 => zp_i (pX14_unthanked_29  h1) (pX14_unthanked_29  h1))
theorem pX14_isDead_16 {z0 z : St} {N : Nat} (h : zEq zClP z0 z) : zPr zClP z0 (fX14_isDead_16 N z) := by
  unfold fX14_isDead_16
  exact zp_s h
theorem pX14_isDead {z0 z : St} {N : Nat} {x0 : Nat} (h : zEq zClP z0 z) : zPr zClP z0 (fX14_isDead N x0 z) := by
  unfold fX14_isDead
  exact zp_i (pX14_isDead_16  h) (zp_i (zp_s h) (pX14_isDead_16  h))
theorem pX14_sendsNew_43 {z0 z : St} {N : Nat} (h : zEq zClP z0 z) : zPr zClP z0 (fX14_sendsNew_43 N z) := by
  unfold fX14_sendsNew_43
  exact zp_s h
theorem pX14_sendsNew {z0 z : St} {N : Nat} {x0 : Nat} (h : zEq zClP z0 z) : zPr zClP z0 (fX14_sendsNew N x0 z) := by
  unfold fX14_sendsNew
  exact zp_i (pX14_sendsNew_43  h) (zp_i (pX14_sendsNew_43  h) (zp_i (pX14_sendsNew_43  h) (zp_i (pX14_sendsNew_43  h) (zp_i (zp_s h) (pX14_sendsNew_43  h)))))
theorem pX14_lastSent {z0 z : St} {N : Nat} {x0 : Nat} (h : zEq zClP z0 z) : zPr zClP z0 (fX14_lastSent N x0 z) := by
  unfold fX14_lastSent
  exact zp_i (zp_s h) (zp_c (pX19_isBefore  h) (fun r2 z3 h1 => zp_i (zp_s h1) (zp_s h1)))
theorem pX14_hasNew_35 {z0 z : St} {N : Nat} (h : zEq zClP z0 z) : zPr zClP z0 (fX14_hasNew_35 N z) := by
  unfold fX14_hasNew_35
  exact zp_s h
theorem pX14_hasNew {z0 z : St} {N : Nat} {x0 : Nat} (h : zEq zClP z0 z) : zPr zClP z0 (fX14_hasNew N x0 z) := by
  unfold fX14_hasNew
  exact zp_c (pX14_sendsNew  h) (fun r1 z2 h1 => zp_i (zp_s h1) (zp_c (pX19_isBefore  h1) (fun r6 z7 h2 => zp_i (pX14_hasNew_35  h2) (zp_i (zp_s h2) (zp_c (pX14_lastSent  h2) (fun r12 z13 h3 => zp_i (zp_s h3) (pX14_hasNew_35  h3)))))))
theorem pX14_become_63 {z0 z : St} {N : Nat} {x0 : Nat} {x1 : Int32} {x2 : Int32} (h : zEq zClP z0 z) : zPr zClP z0 (fX14_become_63 N x0 x1 x2 z) := by
  unfold fX14_become_63
  exact zp_i (zp_s h) (zp_lI h rfl (fun z2 h1 => zp_s h1))
theorem pX14_become_55 {z0 z : St} {N : Nat} {x0 : Nat} {x1 : Int32} {x2 : Int32} {s0 : Nat} {s1 : Int32} (h : zEq zClP z0 z) : zPr zClP z0 (fX14_become_55 N x0 x1 x2 s0 s1 z) := by
  unfold fX14_become_55
  exact zp_q (zp_lI h rfl (fun z1 h1 => zp_lI h1 rfl (fun z3 h2 => pX14_become_63  h2)))
theorem pX14_become_54 {z0 z : St} {N : Nat} {x0 : Nat} {x1 : Int32} {x2 : Int32} {s0 : Nat} (h : zEq zClP z0 z) : zPr zClP z0 (fX14_become_54 N x0 x1 x2 s0 z) := by
  unfold fX14_become_54
  exact pX14_become_55  h
theorem pX14_become_21 {z0 z : St} {N : Nat} {x0 : Nat} {x1 : Int32} {x2 : Int32} (h : zEq zClP z0 z) : zPr zClP z0 (fX14_become_21 N x0 x1 x2 z) := by
  unfold fX14_become_21
  exact zp_lI h rfl (fun z1 h1 => zp_lI h1 rfl (fun z2 h2 => zp_lI h2 rfl (fun z3 h3 => zp_i (pX14_become_54  h3) (zp_i (pX14_become_54  h3) (pX14_become_55  h3)))))
theorem pX14_become {z0 z : St} {N : Nat} {x0 : Nat} {x1 : Int32} {x2 : Int32} (h : zEq zClP z0 z) : zPr zClP z0 (fX14_become N x0 x1 x2 z) := by
  unfold fX14_become
  exact zp_lI h rfl (fun z1 h1 => zp_i (pX14_become_21  h1) (zp_i (pX14_become_21  h1) (zp_i (pX14_become_63  h1) (pX14_become_21  h1))))
theorem pX14_setAlarm {z0 z : St} {N : Nat} {x0 : Nat} {x1 : Int32} (h : zEq zClP z0 z) : zPr zClP z0 (fX14_setAlarm N x0 x1 z) := by
  unfold fX14_setAlarm
  exact zp_lI h rfl (fun z1 h1 => zp_lI h1 rfl (fun z2 h2 => zp_s h2))
theorem pX14_resetWith {z0 z : St} {N : Nat} {x0 : Nat} {x1 : Int32} {x2 : Int32} {x3 : Int32} (h : zEq zClP z0 z) : zPr zClP z0 (fX14_resetWith N x0 x1 x2 x3 z) := by
  unfold fX14_resetWith
  exact zp_lI h rfl (fun z1 h1 => zp_lI h1 rfl (fun z2 h2 => zp_lI h2 rfl (fun z3 h3 => zp_lI h3 rfl (fun z4 h4 => zp_s h4))))
theorem pX14_time_99 {z0 z : St} {N : Nat} {x0 : Nat} {s0 : Int32} {s1 : Int32} (h : zEq zClP z0 z) : zPr zClP z0 (fX14_time_99 N x0 s0 s1 z) := by
  unfold fX14_time_99
  exact zp_l (fun v1 => zp_i (zp_i (zp_lI h rfl (fun z4 h1 => zp_s h1)) (zp_lI h rfl (fun z5 h2 => zp_s h2))) (zp_lI h rfl (fun z6 h3 => zp_s h3)))
theorem pX14_time_76 {z0 z : St} {N : Nat} {x0 : Nat} (h : zEq zClP z0 z) : zPr zClP z0 (fX14_time_76 N x0 z) := by
  unfold fX14_time_76
  exact zp_i (pX14_time_99  h) (pX14_time_99  h)
theorem pX14_time_42 {z0 z : St} {N : Nat} {x0 : Nat} {s0 : Nat} {s1 : Int32} {s2 : Int32} (h : zEq zClP z0 z) : zPr zClP z0 (fX14_time_42 N x0 s0 s1 s2 z) := by
  unfold fX14_time_42
  exact zp_lI h rfl (fun z1 h1 => pX14_time_76  h1)
theorem pX14_time {z0 z : St} {N : Nat} {x0 : Nat} {x1 : Int32} (h : zEq zClP z0 z) : zPr zClP z0 (fX14_time N x0 x1 z) := by
  unfold fX14_time
  exact zp_i (zp_lI h rfl (fun z2 h1 => zp_lI h1 rfl (fun z3 h2 => zp_lI h2 rfl (fun z4 h3 => pX14_time_76  h3)))) (zp_l (fun v5 => zp_lI h rfl (fun z6 h4 => zp_i (pX14_time_42  h4) (pX14_time_42  h4))))
theorem pX14_thankedFor_38 {z0 z : St} {N : Nat} {x0 : Nat} {x2 : Int32} (h : zEq zClP z0 z) : zPr zClP z0 (fX14_thankedFor_38 N x0 x2 z) := by
  unfold fX14_thankedFor_38
  exact zp_lI h rfl (fun z1 h1 => zp_lI h1 rfl (fun z2 h2 => zp_i (zp_lI h2 rfl (fun z4 h3 => zp_s h3)) (zp_c (pX14_setAlarm  h2) (fun _ z6 h4 => zp_s h4))))
theorem pX14_thankedFor {z0 z : St} {N : Nat} {x0 : Nat} {x1 : Int32} {x2 : Int32} (h : zEq zClP z0 z) : zPr zClP z0 (fX14_thankedFor N x0 x1 x2 z) := by
  unfold fX14_thankedFor
  exact zp_lI h rfl (fun z1 h1 => zp_i (pX14_thankedFor_38  h1) (zp_c (pX19_isBefore  h1) (fun r3 z4 h2 => zp_i (pX14_thankedFor_38  h2) (zp_lI h2 rfl (fun z8 h3 => zp_c (pX14_time  h3) (fun _ z10 h4 => pX14_thankedFor_38  h4))))))
theorem pX14_fits_27 {z0 z : St} {N : Nat} (h : zEq zClP z0 z) : zPr zClP z0 (fX14_fits_27 N z) := by
  unfold fX14_fits_27
  exact zp_s h
theorem pX14_fits {z0 z : St} {N : Nat} {x0 : Nat} {x1 : Int32} {x2 : Int32} (h : zEq zClP z0 z) : zPr zClP z0 (fX14_fits N x0 x1 x2 z) := by
  unfold fX14_fits
  exact zp_l (fun v1 => zp_i (zp_c (pX14_room  h) (fun r3 z4 h1 => zp_i (zp_s h1) (zp_i (zp_s h1) (zp_c (pX14_room  h1) (fun r9 z10 h2 => zp_i (zp_s h2) (zp_s h2)))))) (zp_i (pX14_fits_27  h) (zp_i (zp_s h) (zp_c (pX14_room  h) (fun r16 z17 h3 => zp_i (zp_s h3) (pX14_fits_27  h3))))))
theorem pX14_isNew_12 {z0 z : St} {N : Nat} {x0 : Nat} {x1 : Int32} (h : zEq zClP z0 z) : zPr zClP z0 (fX14_isNew_12 N x0 x1 z) := by
  unfold fX14_isNew_12
  exact zp_i (zp_s h) (zp_lI h rfl (fun z2 h1 => zp_lI h1 rfl (fun z3 h2 => zp_lI h2 rfl (fun z4 h3 => zp_s h3))))
theorem pX14_isNew {z0 z : St} {N : Nat} {x0 : Nat} {x1 : Int32} (h : zEq zClP z0 z) : zPr zClP z0 (fX14_isNew N x0 x1 z) := by
  unfold fX14_isNew
  exact zp_i (pX14_isNew_12  h) (zp_c (pX14_setAlarm  h) (fun _ z3 h1 => pX14_isNew_12  h1))
theorem pX14_ring_105 {z0 z : St} {N : Nat} {x0 : Nat} {x1 : Int32} {s0 : Nat} {s1 : Int32} (h : zEq zClP z0 z) : zPr zClP z0 (fX14_ring_105 N x0 x1 s0 s1 z) := by
  unfold fX14_ring_105
  exact zp_lI h rfl (fun z1 h1 => zp_c (pX14_setAlarm  h1) (fun _ z3 h2 => zp_s h2))
theorem pX14_ring_80 {z0 z : St} {N : Nat} {x0 : Nat} {x1 : Int32} (h : zEq zClP z0 z) : zPr zClP z0 (fX14_ring_80 N x0 x1 z) := by
  unfold fX14_ring_80
  exact zp_i (pX14_ring_105  h) (pX14_ring_105  h)
theorem pX14_ring_67 {z0 z : St} {N : Nat} {x0 : Nat} {x1 : Int32} (h : zEq zClP z0 z) : zPr zClP z0 (fX14_ring_67 N x0 x1 z) := by
  unfold fX14_ring_67
  exact zp_lI h rfl (fun z1 h1 => pX14_ring_80  h1)
theorem pX14_ring {z0 z : St} {N : Nat} {x0 : Nat} {x1 : Int32} (h : zEq zClP z0 z) : zPr zClP z0 (fX14_ring N x0 x1 z) := by
  unfold fX14_ring
  exact zp_lI h rfl (fun z1 h1 => zp_lI h1 rfl (fun z2 h2 => zp_i (zp_i (zp_i (pX14_ring_67  h2) (zp_i (zp_lI h2 rfl (fun z7 h3 => pX14_ring_80  h3)) (pX14_ring_67  h2))) (zp_lI h2 rfl (fun z8 h4 => pX14_ring_80  h4))) (zp_c (pX14_become  h2) (fun _ z10 h5 => zp_s h5))))
theorem pX14_persist {z0 z : St} {N : Nat} {x0 : Nat} {x1 : Int32} (h : zEq zClP z0 z) : zPr zClP z0 (fX14_persist N x0 x1 z) := by
  unfold fX14_persist
  exact zp_i (zp_s h) (zp_i (zp_s h) (zp_i (zp_s h) (zp_c (pX14_hasNew  h) (fun r4 z5 h1 => zp_i (zp_s h1) (zp_c (pX14_setAlarm  h1) (fun _ z10 h2 => zp_s h2))))))
theorem pX14_read_100 {z0 z : St} {N : Nat} {x0 : Nat} {x3 : Int32} (h : zEq zClP z0 z) : zPr zClP z0 (fX14_read_100 N x0 x3 z) := by
  unfold fX14_read_100
  exact zp_lI h rfl (fun z1 h1 => zp_s h1)
theorem pX14_read_34 {z0 z : St} {N : Nat} {x0 : Nat} {x1 : Int32} {s0 : Int32} (h : zEq zClP z0 z) : zPr zClP z0 (fX14_read_34 N x0 x1 s0 z) := by
  unfold fX14_read_34
  exact zp_k (zp_l (fun v2 => zp_lI h rfl (fun z3 h1 => zp_i (zp_s h1) (zp_c (pX14_room  h1) (fun r5 z6 h2 => zp_i (zp_s h2) (zp_i (pX14_read_100  h2) (zp_i (pX14_read_100  h2) (zp_i (zp_s h2) (pX14_read_100  h2)))))))))
theorem pX14_read_20 {z0 z : St} {N : Nat} {x0 : Nat} {s0 : Int32} (h : zEq zClP z0 z) : zPr zClP z0 (fX14_read_20 N x0 s0 z) := by
  unfold fX14_read_20
  exact zp_c (pX14_room  h) (fun r1 z2 h1 => zp_i (pX14_read_34  h1) (pX14_read_34  h1))
theorem pX14_read {z0 z : St} {N : Nat} {x0 : Nat} (h : zEq zClP z0 z) : zPr zClP z0 (fX14_read N x0 z) := by
  unfold fX14_read
  exact zp_i (pX14_read_20  h) (pX14_read_20  h)
theorem pX14_canWrite {z0 z : St} {N : Nat} {x0 : Nat} (h : zEq zClP z0 z) : zPr zClP z0 (fX14_canWrite N x0 z) := by
  unfold fX14_canWrite
  exact zp_i (zp_s h) (zp_c (pX14_isDead  h) (fun r2 z3 h1 => zp_i (zp_s h1) (zp_i (zp_s h1) (zp_s h1))))
theorem pX14_close_21 {z0 z : St} {N : Nat} {x0 : Nat} {x1 : Int32} (h : zEq zClP z0 z) : zPr zClP z0 (fX14_close_21 N x0 x1 z) := by
  unfold fX14_close_21
  exact zp_c (pX14_become  h) (fun _ z2 h1 => zp_s h1)
theorem pX14_close {z0 z : St} {N : Nat} {x0 : Nat} {x1 : Int32} (h : zEq zClP z0 z) : zPr zClP z0 (fX14_close N x0 x1 z) := by
  unfold fX14_close
  exact zp_lI h rfl (fun z1 h1 => zp_i (pX14_close_21  h1) (zp_i (zp_i (zp_i (zp_s h1) (zp_lI h1 rfl (fun z6 h2 => zp_s h2))) (zp_lI h1 rfl (fun z7 h3 => zp_s h3))) (pX14_close_21  h1)))
theorem pX14_abort_64 {z0 z : St} {N : Nat} {s0 : Nat} {s1 : Int32} {s2 : Int32} {s3 : Int32} (h : zEq zClP z0 z) : zPr zClP z0 (fX14_abort_64 N s0 s1 s2 s3 z) := by
  unfold fX14_abort_64
  exact zp_c (pX14_resetWith  h) (fun _ z2 h1 => zp_s h1)
theorem pX14_abort_30 {z0 z : St} {N : Nat} {x0 : Nat} {x1 : Int32} {s0 : Int32} (h : zEq zClP z0 z) : zPr zClP z0 (fX14_abort_30 N x0 x1 s0 z) := by
  unfold fX14_abort_30
  exact zp_c (pX14_become  h) (fun _ z2 h1 => zp_i (zp_s h1) (zp_i (pX14_abort_64  h1) (pX14_abort_64  h1)))
theorem pX14_abort_29 {z0 z : St} {N : Nat} {x0 : Nat} {x1 : Int32} (h : zEq zClP z0 z) : zPr zClP z0 (fX14_abort_29 N x0 x1 z) := by
  unfold fX14_abort_29
  exact pX14_abort_30  h
theorem pX14_abort {z0 z : St} {N : Nat} {x0 : Nat} {x1 : Int32} (h : zEq zClP z0 z) : zPr zClP z0 (fX14_abort N x0 x1 z) := by
  unfold fX14_abort
  exact zp_i (pX14_abort_29  h) (zp_i (pX14_abort_29  h) (zp_i (pX14_abort_29  h) (pX14_abort_30  h)))
theorem pX17_isWhole_2b {z0 z : St} {N : Nat} {K2 : Nat → Int32 → St → Option (Int32 × St)} {x0 : Nat} {x1 : Int32} (hK2 : ∀ a0 a1 a2, zEq zClP z0 a2 → zPr zClP z0 (K2 a0 a1 a2)) (h : zEq zClP z0 z) : zPr zClP z0 (fX17_isWhole_2b N K2 x0 x1 z) := by
  unfold fX17_isWhole_2b
  exact zp_i (zp_i (zp_s h) (zp_s h)) (zp_k (zp_i (zp_l (fun v5 => hK2 _ _ _ h)) (zp_s h)))
theorem pX17_isWhole_2 {z0 : St} {N : Nat} : ∀ (n : Nat) (y0 : Nat) (y1 : Int32) (z : St), zEq zClP z0 z → zPr zClP z0 (fX17_isWhole_2 N n y0 y1 z) := by
  intro n
  induction n with
  | zero => intro y0 y1 z h; exact zp_n
  | succ n ih => intro y0 y1 z h; exact pX17_isWhole_2b  (fun _ _ _ h => ih _ _ _ h) h
theorem pX17_isWhole {z0 z : St} {N : Nat} {x0 : Nat} (h : zEq zClP z0 z) : zPr zClP z0 (fX17_isWhole N x0 z) := by
  unfold fX17_isWhole
  exact pX17_isWhole_2  _ _ _ _ h
theorem pX18_address {z0 z : St} {N : Nat} {x0 : Nat} (h : zEq zClP z0 z) : zPr zClP z0 (fX18_address N x0 z) := by
  unfold fX18_address
  exact zp_l (fun y1 => zp_d (fun a2 => zp_s h))
theorem pX18_askingOf_2b {z0 z : St} {N : Nat} {K2 : Nat → Int32 → Int32 → St → Option (Int32 × St)} {x0 : Nat} {x1 : Int32} {x2 : Int32} (hK2 : ∀ a0 a1 a2 a3, zEq zClP z0 a3 → zPr zClP z0 (K2 a0 a1 a2 a3)) (h : zEq zClP z0 z) : zPr zClP z0 (fX18_askingOf_2b N K2 x0 x1 x2 z) := by
  unfold fX18_askingOf_2b
  exact zp_i (zp_s h) (zp_k (zp_i (zp_l (fun v4 => hK2 _ _ _ _ h)) (zp_s h)))
theorem pX18_askingOf_2 {z0 : St} {N : Nat} : ∀ (n : Nat) (y0 : Nat) (y1 : Int32) (y2 : Int32) (z : St), zEq zClP z0 z → zPr zClP z0 (fX18_askingOf_2 N n y0 y1 y2 z) := by
  intro n
  induction n with
  | zero => intro y0 y1 y2 z h; exact zp_n
  | succ n ih => intro y0 y1 y2 z h; exact pX18_askingOf_2b  (fun _ _ _ _ h => ih _ _ _ _ h) h
theorem pX18_askingOf {z0 z : St} {N : Nat} {x0 : Nat} {x1 : Int32} (h : zEq zClP z0 z) : zPr zClP z0 (fX18_askingOf N x0 x1 z) := by
  unfold fX18_askingOf
  exact pX18_askingOf_2  _ _ _ _ _ h
theorem pX18_someWaitFor_2b {z0 z : St} {N : Nat} {K2 : Nat → Int32 → Int32 → St → Option (Int32 × St)} {x0 : Nat} {x1 : Int32} {x2 : Int32} (hK2 : ∀ a0 a1 a2 a3, zEq zClP z0 a3 → zPr zClP z0 (K2 a0 a1 a2 a3)) (h : zEq zClP z0 z) : zPr zClP z0 (fX18_someWaitFor_2b N K2 x0 x1 x2 z) := by
  unfold fX18_someWaitFor_2b
  exact zp_i (zp_s h) (zp_k (zp_i (zp_l (fun v4 => hK2 _ _ _ _ h)) (zp_s h)))
theorem pX18_someWaitFor_2 {z0 : St} {N : Nat} : ∀ (n : Nat) (y0 : Nat) (y1 : Int32) (y2 : Int32) (z : St), zEq zClP z0 z → zPr zClP z0 (fX18_someWaitFor_2 N n y0 y1 y2 z) := by
  intro n
  induction n with
  | zero => intro y0 y1 y2 z h; exact zp_n
  | succ n ih => intro y0 y1 y2 z h; exact pX18_someWaitFor_2b  (fun _ _ _ _ h => ih _ _ _ _ h) h
theorem pX18_someWaitFor {z0 z : St} {N : Nat} {x0 : Nat} {x1 : Int32} (h : zEq zClP z0 z) : zPr zClP z0 (fX18_someWaitFor N x0 x1 z) := by
  unfold fX18_someWaitFor
  exact pX18_someWaitFor_2  _ _ _ _ _ h
theorem pX18_endAsking_12b {z0 z : St} {N : Nat} {K12 : Nat → Int32 → St → Option (Int32 × St)} {x0 : Nat} {x2 : Int32} (hK12 : ∀ a0 a1 a2, zEq zClP z0 a2 → zPr zClP z0 (K12 a0 a1 a2)) (h : zEq zClP z0 z) : zPr zClP z0 (fX18_endAsking_12b N K12 x0 x2 z) := by
  unfold fX18_endAsking_12b
  exact zp_i (zp_s h) (zp_k (zp_k (zp_lA h rfl (fun z4 h1 => zp_k (zp_k (zp_lA h1 rfl (fun z7 h2 => zp_l (fun v8 => hK12 _ _ _ h2))))))))
theorem pX18_endAsking_12 {z0 : St} {N : Nat} : ∀ (n : Nat) (y0 : Nat) (y1 : Int32) (z : St), zEq zClP z0 z → zPr zClP z0 (fX18_endAsking_12 N n y0 y1 z) := by
  intro n
  induction n with
  | zero => intro y0 y1 z h; exact zp_n
  | succ n ih => intro y0 y1 z h; exact pX18_endAsking_12b  (fun _ _ _ h => ih _ _ _ h) h
theorem pX18_endAsking {z0 z : St} {N : Nat} {x0 : Nat} {x1 : Int32} (h : zEq zClP z0 z) : zPr zClP z0 (fX18_endAsking N x0 x1 z) := by
  unfold fX18_endAsking
  exact zp_lI h rfl (fun z1 h1 => pX18_endAsking_12  _ _ _ _ h1)
theorem pX18_takeWaiting_19b {z0 z : St} {N : Nat} {K19 : Nat → Int32 → Int32 → St → Option (Int32 × St)} {x0 : Nat} {x2 : Int32} {x3 : Int32} (hK19 : ∀ a0 a1 a2 a3, zEq zClP z0 a3 → zPr zClP z0 (K19 a0 a1 a2 a3)) (h : zEq zClP z0 z) : zPr zClP z0 (fX18_takeWaiting_19b N K19 x0 x2 x3 z) := by
  unfold fX18_takeWaiting_19b
  exact zp_i (zp_s h) (zp_k (zp_k (zp_lA h rfl (fun z4 h1 => zp_k (zp_k (zp_lA h1 rfl (fun z7 h2 => zp_l (fun v8 => hK19 _ _ _ _ h2))))))))
theorem pX18_takeWaiting_19 {z0 : St} {N : Nat} : ∀ (n : Nat) (y0 : Nat) (y1 : Int32) (y2 : Int32) (z : St), zEq zClP z0 z → zPr zClP z0 (fX18_takeWaiting_19 N n y0 y1 y2 z) := by
  intro n
  induction n with
  | zero => intro y0 y1 y2 z h; exact zp_n
  | succ n ih => intro y0 y1 y2 z h; exact pX18_takeWaiting_19b  (fun _ _ _ _ h => ih _ _ _ _ h) h
theorem pX18_takeWaiting {z0 z : St} {N : Nat} {x0 : Nat} {x1 : Int32} (h : zEq zClP z0 z) : zPr zClP z0 (fX18_takeWaiting N x0 x1 z) := by
  unfold fX18_takeWaiting
  exact zp_k (zp_l (fun v2 => zp_lI h rfl (fun z3 h1 => pX18_takeWaiting_19  _ _ _ _ _ h1)))
theorem pX19_of {z0 z : St} {N : Nat} {x0 : Nat} {x1 : Int32} {x2 : Int32} (h : zEq zClP z0 z) : zPr zClP z0 (fX19_of N x0 x1 x2 z) := by
  unfold fX19_of
  exact zp_k (zp_s h)
theorem pX19_set {z0 z : St} {N : Nat} {x0 : Nat} {x1 : Int32} {x2 : Int32} {x3 : Int32} (h : zEq zClP z0 z) : zPr zClP z0 (fX19_set N x0 x1 x2 x3 z) := by
  unfold fX19_set
  exact zp_k (zp_lA h rfl (fun z2 h1 => zp_s h1))
theorem pX19_newDatagram_22b {z0 z : St} {N : Nat} {K22 : Nat → Int32 → Int32 → St → Option (Int32 × St)} {x0 : Nat} {x1 : Int32} {x2 : Int32} (hK22 : ∀ a0 a1 a2 a3, zEq zClP z0 a3 → zPr zClP z0 (K22 a0 a1 a2 a3)) (h : zEq zClP z0 z) : zPr zClP z0 (fX19_newDatagram_22b N K22 x0 x1 x2 z) := by
  unfold fX19_newDatagram_22b
  exact zp_i (zp_c (pX19_set  h) (fun _ z3 h1 => zp_c (pX19_set  h1) (fun _ z7 h2 => zp_s h2))) (zp_k (zp_lA h rfl (fun z11 h3 => zp_l (fun v12 => hK22 _ _ _ _ h3))))
theorem pX19_newDatagram_22 {z0 : St} {N : Nat} : ∀ (n : Nat) (y0 : Nat) (y1 : Int32) (y2 : Int32) (z : St), zEq zClP z0 z → zPr zClP z0 (fX19_newDatagram_22 N n y0 y1 y2 z) := by
  intro n
  induction n with
  | zero => intro y0 y1 y2 z h; exact zp_n
  | succ n ih => intro y0 y1 y2 z h; exact pX19_newDatagram_22b  (fun _ _ _ _ h => ih _ _ _ _ h) h
theorem pX19_newDatagram {z0 z : St} {N : Nat} {x0 : Nat} (h : zEq zClP z0 z) : zPr zClP z0 (fX19_newDatagram N x0 z) := by
  unfold fX19_newDatagram
  exact zp_lI h rfl (fun z1 h1 => zp_k (zp_l (fun v3 => pX19_newDatagram_22  _ _ _ _ _ h1)))
theorem pX19_copyOf_83 {z0 z : St} {N : Nat} {x0 : Nat} {x2 : Int32} (h : zEq zClP z0 z) : zPr zClP z0 (fX19_copyOf_83 N x0 x2 z) := by
  unfold fX19_copyOf_83
  exact zp_c (pX19_of  h) (fun r1 z2 h1 => zp_i (zp_s h1) (zp_c (pX19_of  h1) (fun r6 z7 h2 => zp_k (zp_k (zp_lA h2 rfl (fun z12 h3 => zp_s h3))))))
theorem pX19_copyOf_22b {z0 z : St} {N : Nat} {K22 : Nat → Int32 → Int32 → Int32 → St → Option (Int32 × St)} {x0 : Nat} {x1 : Int32} {x2 : Int32} {x3 : Int32} (hK22 : ∀ a0 a1 a2 a3 a4, zEq zClP z0 a4 → zPr zClP z0 (K22 a0 a1 a2 a3 a4)) (h : zEq zClP z0 z) : zPr zClP z0 (fX19_copyOf_22b N K22 x0 x1 x2 x3 z) := by
  unfold fX19_copyOf_22b
  exact zp_i (zp_c (pX19_of  h) (fun r2 z3 h1 => zp_i (pX19_copyOf_83  h1) (zp_c (pX19_of  h1) (fun r7 z8 h2 => zp_k (zp_k (zp_lA h2 rfl (fun z13 h3 => pX19_copyOf_83  h3))))))) (zp_k (zp_k (zp_lA h rfl (fun z16 h4 => zp_l (fun v17 => hK22 _ _ _ _ _ h4)))))
theorem pX19_copyOf_22 {z0 : St} {N : Nat} : ∀ (n : Nat) (y0 : Nat) (y1 : Int32) (y2 : Int32) (y3 : Int32) (z : St), zEq zClP z0 z → zPr zClP z0 (fX19_copyOf_22 N n y0 y1 y2 y3 z) := by
  intro n
  induction n with
  | zero => intro y0 y1 y2 y3 z h; exact zp_n
  | succ n ih => intro y0 y1 y2 y3 z h; exact pX19_copyOf_22b  (fun _ _ _ _ _ h => ih _ _ _ _ _ h) h
theorem pX19_copyOf {z0 z : St} {N : Nat} {x0 : Nat} {x1 : Int32} (h : zEq zClP z0 z) : zPr zClP z0 (fX19_copyOf N x0 x1 z) := by
  unfold fX19_copyOf
  exact zp_lI h rfl (fun z1 h1 => zp_k (zp_l (fun v3 => pX19_copyOf_22  _ _ _ _ _ _ h1)))
theorem pX19_dropAdvert {z0 z : St} {N : Nat} {x0 : Nat} {x1 : Int32} (h : zEq zClP z0 z) : zPr zClP z0 (fX19_dropAdvert N x0 x1 z) := by
  unfold fX19_dropAdvert
  exact zp_k (zp_k (zp_lA h rfl (fun z3 h1 => zp_k (zp_i (zp_s h1) (zp_k (zp_lA h1 rfl (fun z7 h2 => zp_lI h2 rfl (fun z8 h3 => zp_s h3))))))))
theorem pX19_dropBook {z0 z : St} {N : Nat} {x0 : Nat} {x1 : Int32} (h : zEq zClP z0 z) : zPr zClP z0 (fX19_dropBook N x0 x1 z) := by
  unfold fX19_dropBook
  exact zp_i (zp_s h) (zp_k (zp_k (zp_lA h rfl (fun z4 h1 => zp_k (zp_i (zp_s h1) (zp_k (zp_lA h1 rfl (fun z8 h2 => zp_lI h2 rfl (fun z9 h3 => zp_s h3)))))))))
theorem pX19_seg {z0 z : St} {N : Nat} {x0 : Nat} {x1 : Int32} {x2 : Int32} (h : zEq zClP z0 z) : zPr zClP z0 (fX19_seg N x0 x1 x2 z) := by
  unfold fX19_seg
  exact zp_k (zp_s h)
theorem pX19_dropSegment {z0 z : St} {N : Nat} {x0 : Nat} {x1 : Int32} (h : zEq zClP z0 z) : zPr zClP z0 (fX19_dropSegment N x0 x1 z) := by
  unfold fX19_dropSegment
  exact zp_k (zp_k (zp_lA h rfl (fun z3 h1 => zp_k (zp_i (zp_s h1) (zp_c (pX19_seg  h1) (fun r6 z7 h2 => zp_c (pX19_dropBook  h2) (fun _ z11 h3 => zp_k (zp_lA h3 rfl (fun z15 h4 => zp_lI h4 rfl (fun z16 h5 => zp_s h5))))))))))
theorem pX19_drop_44 {z0 z : St} {N : Nat} {x0 : Nat} {x1 : Int32} (h : zEq zClP z0 z) : zPr zClP z0 (fX19_drop_44 N x0 x1 z) := by
  unfold fX19_drop_44
  exact zp_k (zp_lA h rfl (fun z2 h1 => zp_lI h1 rfl (fun z3 h2 => zp_s h2)))
theorem pX19_drop_22 {z0 z : St} {N : Nat} {x0 : Nat} {x1 : Int32} (h : zEq zClP z0 z) : zPr zClP z0 (fX19_drop_22 N x0 x1 z) := by
  unfold fX19_drop_22
  exact zp_c (pX19_of  h) (fun r1 z2 h1 => zp_i (pX19_drop_44  h1) (zp_c (pX19_of  h1) (fun r6 z7 h2 => zp_c (pX19_dropAdvert  h2) (fun _ z11 h3 => pX19_drop_44  h3))))
theorem pX19_drop {z0 z : St} {N : Nat} {x0 : Nat} {x1 : Int32} (h : zEq zClP z0 z) : zPr zClP z0 (fX19_drop N x0 x1 z) := by
  unfold fX19_drop
  exact zp_c (pX19_of  h) (fun r1 z2 h1 => zp_i (pX19_drop_22  h1) (zp_c (pX19_of  h1) (fun r6 z7 h2 => zp_c (pX19_dropSegment  h2) (fun _ z11 h3 => pX19_drop_22  h3))))
theorem pX19_setSeg {z0 z : St} {N : Nat} {x0 : Nat} {x1 : Int32} {x2 : Int32} {x3 : Int32} (h : zEq zClP z0 z) : zPr zClP z0 (fX19_setSeg N x0 x1 x2 x3 z) := by
  unfold fX19_setSeg
  exact zp_k (zp_lA h rfl (fun z2 h1 => zp_s h1))
theorem pX19_newSegment_23b {z0 z : St} {N : Nat} {K23 : Nat → Int32 → Int32 → Int32 → Int32 → St → Option (Int32 × St)} {x0 : Nat} {x1 : Int32} {x2 : Int32} {x3 : Int32} {x4 : Int32} (hK23 : ∀ a0 a1 a2 a3 a4 a5, zEq zClP z0 a5 → zPr zClP z0 (K23 a0 a1 a2 a3 a4 a5)) (h : zEq zClP z0 z) : zPr zClP z0 (fX19_newSegment_23b N K23 x0 x1 x2 x3 x4 z) := by
  unfold fX19_newSegment_23b
  exact zp_i (zp_c (pX19_setSeg  h) (fun _ z3 h1 => zp_c (pX19_setSeg  h1) (fun _ z7 h2 => zp_c (pX19_setSeg  h2) (fun _ z11 h3 => zp_k (zp_lA h3 rfl (fun z15 h4 => zp_s h4)))))) (zp_k (zp_lA h rfl (fun z17 h5 => zp_l (fun v18 => hK23 _ _ _ _ _ _ h5))))
theorem pX19_newSegment_23 {z0 : St} {N : Nat} : ∀ (n : Nat) (y0 : Nat) (y1 : Int32) (y2 : Int32) (y3 : Int32) (y4 : Int32) (z : St), zEq zClP z0 z → zPr zClP z0 (fX19_newSegment_23 N n y0 y1 y2 y3 y4 z) := by
  intro n
  induction n with
  | zero => intro y0 y1 y2 y3 y4 z h; exact zp_n
  | succ n ih => intro y0 y1 y2 y3 y4 z h; exact pX19_newSegment_23b  (fun _ _ _ _ _ _ h => ih _ _ _ _ _ _ h) h
theorem pX19_newSegment {z0 z : St} {N : Nat} {x0 : Nat} {x1 : Int32} {x2 : Int32} (h : zEq zClP z0 z) : zPr zClP z0 (fX19_newSegment N x0 x1 x2 z) := by
  unfold fX19_newSegment
  exact zp_lI h rfl (fun z1 h1 => zp_k (zp_l (fun v3 => pX19_newSegment_23  _ _ _ _ _ _ _ h1)))
theorem pX19_setByte {z0 z : St} {N : Nat} {x0 : Nat} {x1 : Int32} {x2 : Int32} {x3 : Int32} (h : zEq zClP z0 z) : zPr zClP z0 (fX19_setByte N x0 x1 x2 x3 z) := by
  unfold fX19_setByte
  exact zp_l (fun v1 => zp_l (fun v2 => zp_k (zp_k (zp_lL h rfl (fun z5 h1 => zp_s h1)))))
theorem pX19_byteOf {z0 z : St} {N : Nat} {x0 : Nat} {x1 : Int32} {x2 : Int32} (h : zEq zClP z0 z) : zPr zClP z0 (fX19_byteOf N x0 x1 x2 z) := by
  unfold fX19_byteOf
  exact zp_k (zp_q (zp_s h))
theorem pX19_has {z0 z : St} {N : Nat} {x0 : Nat} {x1 : Int32} {x2 : Int32} (h : zEq zClP z0 z) : zPr zClP z0 (fX19_has N x0 x1 x2 z) := by
  unfold fX19_has
  exact zp_c (pX19_seg  h) (fun r1 z2 h1 => zp_i (zp_s h1) (zp_s h1))
theorem pX19_sizeOf_14 {z0 z : St} {N : Nat} {x0 : Nat} {x1 : Int32} {s0 : Int32} (h : zEq zClP z0 z) : zPr zClP z0 (fX19_sizeOf_14 N x0 x1 s0 z) := by
  unfold fX19_sizeOf_14
  exact zp_c (pX19_seg  h) (fun r1 z2 h1 => zp_c (pX19_has  h1) (fun r5 z6 h2 => zp_i (zp_s h2) (zp_s h2)))
theorem pX19_sizeOf {z0 z : St} {N : Nat} {x0 : Nat} {x1 : Int32} (h : zEq zClP z0 z) : zPr zClP z0 (fX19_sizeOf N x0 x1 z) := by
  unfold fX19_sizeOf
  exact zp_c (pX19_has  h) (fun r1 z2 h1 => zp_i (pX19_sizeOf_14  h1) (pX19_sizeOf_14  h1))
theorem pX19_ad {z0 z : St} {N : Nat} {x0 : Nat} {x1 : Int32} {x2 : Int32} (h : zEq zClP z0 z) : zPr zClP z0 (fX19_ad N x0 x1 x2 z) := by
  unfold fX19_ad
  exact zp_k (zp_s h)
theorem pX19_newAdvert_22b {z0 z : St} {N : Nat} {K22 : Nat → Int32 → Int32 → Int32 → St → Option (Int32 × St)} {x0 : Nat} {x1 : Int32} {x2 : Int32} {x3 : Int32} (hK22 : ∀ a0 a1 a2 a3 a4, zEq zClP z0 a4 → zPr zClP z0 (K22 a0 a1 a2 a3 a4)) (h : zEq zClP z0 z) : zPr zClP z0 (fX19_newAdvert_22b N K22 x0 x1 x2 x3 z) := by
  unfold fX19_newAdvert_22b
  exact zp_i (zp_k (zp_lA h rfl (fun z3 h1 => zp_k (zp_lA h1 rfl (fun z5 h2 => zp_s h2))))) (zp_k (zp_lA h rfl (fun z7 h3 => zp_l (fun v8 => hK22 _ _ _ _ _ h3))))
theorem pX19_newAdvert_22 {z0 : St} {N : Nat} : ∀ (n : Nat) (y0 : Nat) (y1 : Int32) (y2 : Int32) (y3 : Int32) (z : St), zEq zClP z0 z → zPr zClP z0 (fX19_newAdvert_22 N n y0 y1 y2 y3 z) := by
  intro n
  induction n with
  | zero => intro y0 y1 y2 y3 z h; exact zp_n
  | succ n ih => intro y0 y1 y2 y3 z h; exact pX19_newAdvert_22b  (fun _ _ _ _ _ h => ih _ _ _ _ _ h) h
theorem pX19_newAdvert {z0 z : St} {N : Nat} {x0 : Nat} {x1 : Int32} (h : zEq zClP z0 z) : zPr zClP z0 (fX19_newAdvert N x0 x1 z) := by
  unfold fX19_newAdvert
  exact zp_lI h rfl (fun z1 h1 => zp_k (zp_l (fun v3 => pX19_newAdvert_22  _ _ _ _ _ _ h1)))
theorem pX19_netRow {z0 z : St} {N : Nat} {x0 : Nat} {x1 : Int32} {x2 : Int32} {x3 : Int32} (h : zEq zClP z0 z) : zPr zClP z0 (fX19_netRow N x0 x1 x2 x3 z) := by
  unfold fX19_netRow
  exact zp_k (zp_s h)
theorem pX19_friendRow {z0 z : St} {N : Nat} {x0 : Nat} {x1 : Int32} {x2 : Int32} {x3 : Int32} (h : zEq zClP z0 z) : zPr zClP z0 (fX19_friendRow N x0 x1 x2 x3 z) := by
  unfold fX19_friendRow
  exact zp_c (pX19_ad  h) (fun r1 z2 h1 => zp_c (pX19_netRow  h1) (fun r5 z6 h2 => zp_s h2))
theorem pX19_tellAlike_82 {z0 z : St} {N : Nat} {K39 : Nat → Int32 → Int32 → Int32 → Int32 → St → Option (Int32 × St)} {x0 : Nat} {x1 : Int32} {x2 : Int32} {x4 : Int32} {s0 : Int32} (hK39 : ∀ a0 a1 a2 a3 a4 a5, zEq zClP z0 a5 → zPr zClP z0 (K39 a0 a1 a2 a3 a4 a5)) (h : zEq zClP z0 z) : zPr zClP z0 (fX19_tellAlike_82 N K39 x0 x1 x2 x4 s0 z) := by
  unfold fX19_tellAlike_82
  exact zp_l (fun v1 => hK39 _ _ _ _ _ _ h)
theorem pX19_tellAlike_39b {z0 z : St} {N : Nat} {K39 : Nat → Int32 → Int32 → Int32 → Int32 → St → Option (Int32 × St)} {x0 : Nat} {x1 : Int32} {x2 : Int32} {x3 : Int32} {x4 : Int32} (hK39 : ∀ a0 a1 a2 a3 a4 a5, zEq zClP z0 a5 → zPr zClP z0 (K39 a0 a1 a2 a3 a4 a5)) (h : zEq zClP z0 z) : zPr zClP z0 (fX19_tellAlike_39b N K39 x0 x1 x2 x3 x4 z) := by
  unfold fX19_tellAlike_39b
  exact zp_i (zp_q (zp_s h)) (zp_i (zp_q (zp_s h)) (zp_k (zp_k (zp_i (pX19_tellAlike_82 hK39 h) (pX19_tellAlike_82 hK39 h)))))
theorem pX19_tellAlike_39 {z0 : St} {N : Nat} : ∀ (n : Nat) (y0 : Nat) (y1 : Int32) (y2 : Int32) (y3 : Int32) (y4 : Int32) (z : St), zEq zClP z0 z → zPr zClP z0 (fX19_tellAlike_39 N n y0 y1 y2 y3 y4 z) := by
  intro n
  induction n with
  | zero => intro y0 y1 y2 y3 y4 z h; exact zp_n
  | succ n ih => intro y0 y1 y2 y3 y4 z h; exact pX19_tellAlike_39b  (fun _ _ _ _ _ _ h => ih _ _ _ _ _ _ h) h
theorem pX19_tellAlike_35 {z0 z : St} {N : Nat} {x0 : Nat} {x1 : Int32} {x2 : Int32} {s0 : Int32} (h : zEq zClP z0 z) : zPr zClP z0 (fX19_tellAlike_35 N x0 x1 x2 s0 z) := by
  unfold fX19_tellAlike_35
  exact pX19_tellAlike_39  _ _ _ _ _ _ _ h
theorem pX19_tellAlike_34 {z0 z : St} {N : Nat} {x0 : Nat} {x1 : Int32} {x2 : Int32} (h : zEq zClP z0 z) : zPr zClP z0 (fX19_tellAlike_34 N x0 x1 x2 z) := by
  unfold fX19_tellAlike_34
  exact pX19_tellAlike_35  h
theorem pX19_tellAlike {z0 z : St} {N : Nat} {x0 : Nat} {x1 : Int32} {x2 : Int32} (h : zEq zClP z0 z) : zPr zClP z0 (fX19_tellAlike N x0 x1 x2 z) := by
  unfold fX19_tellAlike
  exact zp_c (pX19_ad  h) (fun r1 z2 h1 => zp_c (pX19_ad  h1) (fun r5 z6 h2 => zp_i (pX19_tellAlike_34  h2) (zp_c (pX19_ad  h2) (fun r10 z11 h3 => zp_c (pX19_ad  h3) (fun r14 z15 h4 => zp_i (pX19_tellAlike_34  h4) (pX19_tellAlike_35  h4))))))
theorem pX19_costTo_47 {z0 z : St} {N : Nat} {K3 : Nat → Int32 → Int32 → Int32 → Int32 → St → Option (Int32 × St)} {x0 : Nat} {x1 : Int32} {x2 : Int32} {x3 : Int32} {x4 : Int32} (hK3 : ∀ a0 a1 a2 a3 a4 a5, zEq zClP z0 a5 → zPr zClP z0 (K3 a0 a1 a2 a3 a4 a5)) (h : zEq zClP z0 z) : zPr zClP z0 (fX19_costTo_47 N K3 x0 x1 x2 x3 x4 z) := by
  unfold fX19_costTo_47
  exact zp_l (fun v1 => hK3 _ _ _ _ _ _ h)
theorem pX19_costTo_3b {z0 z : St} {N : Nat} {K3 : Nat → Int32 → Int32 → Int32 → Int32 → St → Option (Int32 × St)} {x0 : Nat} {x1 : Int32} {x2 : Int32} {x3 : Int32} {x4 : Int32} (hK3 : ∀ a0 a1 a2 a3 a4 a5, zEq zClP z0 a5 → zPr zClP z0 (K3 a0 a1 a2 a3 a4 a5)) (h : zEq zClP z0 z) : zPr zClP z0 (fX19_costTo_3b N K3 x0 x1 x2 x3 x4 z) := by
  unfold fX19_costTo_3b
  exact zp_c (pX19_ad  h) (fun r1 z2 h1 => zp_i (zp_s h1) (zp_c (pX19_friendRow  h1) (fun r6 z7 h2 => zp_i (pX19_costTo_47 hK3 h2) (zp_c (pX19_friendRow  h2) (fun r11 z12 h3 => zp_i (pX19_costTo_47 hK3 h3) (zp_c (pX19_friendRow  h3) (fun r16 z17 h4 => zp_s h4)))))))
theorem pX19_costTo_3 {z0 : St} {N : Nat} : ∀ (n : Nat) (y0 : Nat) (y1 : Int32) (y2 : Int32) (y3 : Int32) (y4 : Int32) (z : St), zEq zClP z0 z → zPr zClP z0 (fX19_costTo_3 N n y0 y1 y2 y3 y4 z) := by
  intro n
  induction n with
  | zero => intro y0 y1 y2 y3 y4 z h; exact zp_n
  | succ n ih => intro y0 y1 y2 y3 y4 z h; exact pX19_costTo_3b  (fun _ _ _ _ _ _ h => ih _ _ _ _ _ _ h) h
theorem pX19_costTo {z0 z : St} {N : Nat} {x0 : Nat} {x1 : Int32} {x2 : Int32} {x3 : Int32} (h : zEq zClP z0 z) : zPr zClP z0 (fX19_costTo N x0 x1 x2 x3 z) := by
  unfold fX19_costTo
  exact pX19_costTo_3  _ _ _ _ _ _ _ h
theorem pX19_costOn_2b {z0 z : St} {N : Nat} {K2 : Nat → Int32 → Int32 → Int32 → St → Option (Int32 × St)} {x0 : Nat} {x1 : Int32} {x2 : Int32} {x3 : Int32} (hK2 : ∀ a0 a1 a2 a3 a4, zEq zClP z0 a4 → zPr zClP z0 (K2 a0 a1 a2 a3 a4)) (h : zEq zClP z0 z) : zPr zClP z0 (fX19_costOn_2b N K2 x0 x1 x2 x3 z) := by
  unfold fX19_costOn_2b
  exact zp_i (zp_s h) (zp_c (pX19_ad  h) (fun r2 z3 h1 => zp_i (zp_s h1) (zp_c (pX19_netRow  h1) (fun r7 z8 h2 => zp_i (zp_l (fun v12 => hK2 _ _ _ _ _ h2)) (zp_c (pX19_netRow  h2) (fun r13 z14 h3 => zp_s h3))))))
theorem pX19_costOn_2 {z0 : St} {N : Nat} : ∀ (n : Nat) (y0 : Nat) (y1 : Int32) (y2 : Int32) (y3 : Int32) (z : St), zEq zClP z0 z → zPr zClP z0 (fX19_costOn_2 N n y0 y1 y2 y3 z) := by
  intro n
  induction n with
  | zero => intro y0 y1 y2 y3 z h; exact zp_n
  | succ n ih => intro y0 y1 y2 y3 z h; exact pX19_costOn_2b  (fun _ _ _ _ _ h => ih _ _ _ _ _ h) h
theorem pX19_costOn {z0 z : St} {N : Nat} {x0 : Nat} {x1 : Int32} {x2 : Int32} (h : zEq zClP z0 z) : zPr zClP z0 (fX19_costOn N x0 x1 x2 z) := by
  unfold fX19_costOn
  exact pX19_costOn_2  _ _ _ _ _ _ h
theorem pX19_newBook {z0 z : St} {N : Nat} {x0 : Nat} (h : zEq zClP z0 z) : zPr zClP z0 (fX19_newBook N x0 z) := by
  unfold fX19_newBook
  exact zp_lI h rfl (fun z1 h1 => zp_k (zp_l (fun v3 => zp_k (zp_lA h1 rfl (fun z5 h2 => zp_k (zp_lA h2 rfl (fun z7 h3 => zp_k (zp_k (zp_lA h3 rfl (fun z10 h4 => zp_s h4))))))))))
theorem pX19_writeDown {z0 z : St} {N : Nat} {x0 : Nat} {x1 : Int32} {x2 : Int32} (h : zEq zClP z0 z) : zPr zClP z0 (fX19_writeDown N x0 x1 x2 z) := by
  unfold fX19_writeDown
  exact zp_k (zp_l (fun v2 => zp_l (fun v3 => zp_l (fun v4 => zp_k (zp_k (zp_lL h rfl (fun z7 h1 => zp_k (zp_k (zp_lA h1 rfl (fun z10 h2 => zp_s h2))))))))))
theorem pX19_written {z0 z : St} {N : Nat} {x0 : Nat} {x1 : Int32} {x2 : Int32} (h : zEq zClP z0 z) : zPr zClP z0 (fX19_written N x0 x1 x2 z) := by
  unfold fX19_written
  exact zp_l (fun v1 => zp_k (zp_s h))
theorem pX19_thrown {z0 z : St} {N : Nat} {x0 : Nat} (h : zEq zClP z0 z) : zPr zClP z0 (fX19_thrown N x0 z) := by
  unfold fX19_thrown
  exact zp_s h
theorem pX19_stir {z0 z : St} {N : Nat} {x0 : Nat} (h : zEq zClP z0 z) : zPr zClP z0 (fX19_stir N x0 z) := by
  unfold fX19_stir
  exact zp_lI h rfl (fun z1 h1 => zp_s h1)
theorem pX19_frame_91 {z0 z : St} {N : Nat} {x0 : Nat} {x6 : Int32} {x7 : Int32} {s0 : Nat} {s1 : Int32} {s2 : Int32} (h : zEq zClP z0 z) : zPr zClP z0 (fX19_frame_91 N x0 x6 x7 s0 s1 s2 z) := by
  unfold fX19_frame_91
  exact zp_k (zp_lA h rfl (fun z2 h1 => zp_k (zp_lA h1 rfl (fun z4 h2 => zp_lI h2 rfl (fun z5 h3 => zp_s h3)))))
theorem pX19_frame {z0 z : St} {N : Nat} {x0 : Nat} {x1 : Nat} {x2 : Int32} {x3 : Int32} {x4 : Int32} {x5 : Int32} {x6 : Int32} (h : zEq zClP z0 z) : zPr zClP z0 (fX19_frame N x0 x1 x2 x3 x4 x5 x6 z) := by
  unfold fX19_frame
  exact zp_l (fun v1 => zp_l (fun y2 => zp_d (fun a3 => zp_k (zp_lA h rfl (fun z5 h1 => zp_k (zp_lA h1 rfl (fun z7 h2 => zp_k (zp_lA h2 rfl (fun z9 h3 => zp_k (zp_lA h3 rfl (fun z11 h4 => zp_k (zp_lA h4 rfl (fun z13 h5 => zp_i (zp_c (pX19_copyOf  h5) (fun r15 z16 h6 => pX19_frame_91  h6)) (pX19_frame_91  h5))))))))))))))
theorem pX19_put_205 {z0 z : St} {N : Nat} {x0 : Nat} {x1 : Nat} {x2 : Int32} {x3 : Int32} {x4 : Int32} {x5 : Int32} {x6 : Nat} {x7 : Int32} (h : zEq zClP z0 z) : zPr zClP z0 (fX19_put_205 N x0 x1 x2 x3 x4 x5 x6 x7 z) := by
  unfold fX19_put_205
  exact zp_i (zp_s h) (zp_c (pX19_frame  h) (fun _ z3 h1 => zp_s h1))
theorem pX19_put_176 {z0 z : St} {N : Nat} {x0 : Nat} {x1 : Nat} {x2 : Int32} {x3 : Int32} {x4 : Int32} {x5 : Int32} {x6 : Nat} {x7 : Int32} (h : zEq zClP z0 z) : zPr zClP z0 (fX19_put_176 N x0 x1 x2 x3 x4 x5 x6 x7 z) := by
  unfold fX19_put_176
  exact zp_i (pX19_put_205  h) (zp_c (pX19_frame  h) (fun _ z3 h1 => pX19_put_205  h1))
theorem pX19_put_155 {z0 z : St} {N : Nat} {x0 : Nat} {x1 : Nat} {x2 : Int32} {x3 : Int32} {x4 : Int32} {x5 : Int32} {x6 : Nat} {x7 : Int32} (h : zEq zClP z0 z) : zPr zClP z0 (fX19_put_155 N x0 x1 x2 x3 x4 x5 x6 x7 z) := by
  unfold fX19_put_155
  exact zp_c (pX19_frame  h) (fun _ z2 h1 => pX19_put_176  h1)
theorem pX19_put_124 {z0 z : St} {N : Nat} {x0 : Nat} {x1 : Nat} {x2 : Int32} {x3 : Int32} {x4 : Int32} {x5 : Int32} {x6 : Nat} {x7 : Int32} {s0 : Int32} (h : zEq zClP z0 z) : zPr zClP z0 (fX19_put_124 N x0 x1 x2 x3 x4 x5 x6 x7 s0 z) := by
  unfold fX19_put_124
  exact zp_i (zp_i (pX19_put_155  h) (zp_i (pX19_put_176  h) (pX19_put_155  h))) (zp_c (pX19_stir  h) (fun _ z5 h1 => zp_s h1))
theorem pX19_put_103 {z0 z : St} {N : Nat} {x0 : Nat} {x1 : Nat} {x2 : Int32} {x3 : Int32} {x4 : Int32} {x5 : Int32} {x6 : Nat} {x7 : Int32} (h : zEq zClP z0 z) : zPr zClP z0 (fX19_put_103 N x0 x1 x2 x3 x4 x5 x6 x7 z) := by
  unfold fX19_put_103
  exact zp_i (zp_i (pX19_put_124  h) (pX19_put_124  h)) (pX19_put_124  h)
theorem pX19_put_94 {z0 z : St} {N : Nat} {x0 : Nat} {x1 : Nat} {x2 : Int32} {x3 : Int32} {x4 : Int32} {x5 : Int32} {x6 : Nat} {x7 : Int32} (h : zEq zClP z0 z) : zPr zClP z0 (fX19_put_94 N x0 x1 x2 x3 x4 x5 x6 x7 z) := by
  unfold fX19_put_94
  exact zp_i (pX19_put_103  h) (zp_c (pX19_stir  h) (fun _ z3 h1 => pX19_put_103  h1))
theorem pX19_put_60b {z0 z : St} {N : Nat} {K60 : Nat → Nat → Int32 → Int32 → Int32 → Int32 → Nat → Int32 → Int32 → St → Option (Int32 × St)} {x0 : Nat} {x1 : Nat} {x2 : Int32} {x3 : Int32} {x4 : Int32} {x5 : Int32} {x6 : Nat} {x7 : Int32} {x8 : Int32} (hK60 : ∀ a0 a1 a2 a3 a4 a5 a6 a7 a8 a9, zEq zClP z0 a9 → zPr zClP z0 (K60 a0 a1 a2 a3 a4 a5 a6 a7 a8 a9)) (h : zEq zClP z0 z) : zPr zClP z0 (fX19_put_60b N K60 x0 x1 x2 x3 x4 x5 x6 x7 x8 z) := by
  unfold fX19_put_60b
  exact zp_i (pX19_put_94  h) (zp_k (zp_k (zp_lA h rfl (fun z4 h1 => zp_l (fun v5 => hK60 _ _ _ _ _ _ _ _ _ _ h1)))))
theorem pX19_put_60 {z0 : St} {N : Nat} : ∀ (n : Nat) (y0 : Nat) (y1 : Nat) (y2 : Int32) (y3 : Int32) (y4 : Int32) (y5 : Int32) (y6 : Nat) (y7 : Int32) (y8 : Int32) (z : St), zEq zClP z0 z → zPr zClP z0 (fX19_put_60 N n y0 y1 y2 y3 y4 y5 y6 y7 y8 z) := by
  intro n
  induction n with
  | zero => intro y0 y1 y2 y3 y4 y5 y6 y7 y8 z h; exact zp_n
  | succ n ih => intro y0 y1 y2 y3 y4 y5 y6 y7 y8 z h; exact pX19_put_60b  (fun _ _ _ _ _ _ _ _ _ _ h => ih _ _ _ _ _ _ _ _ _ _ h) h
theorem pX19_put {z0 z : St} {N : Nat} {x0 : Nat} {x1 : Nat} {x2 : Int32} {x3 : Int32} {x4 : Int32} {x5 : Int32} (h : zEq zClP z0 z) : zPr zClP z0 (fX19_put N x0 x1 x2 x3 x4 x5 z) := by
  unfold fX19_put
  exact zp_l (fun y1 => zp_d (fun a2 => zp_lI h rfl (fun z3 h1 => zp_i (zp_i (pX19_put_94  h1) (zp_k (zp_l (fun v7 => zp_lI h1 rfl (fun z8 h2 => pX19_put_60  _ _ _ _ _ _ _ _ _ _ _ h2))))) (zp_s h1))))
theorem pX19_takeFrame_15b {z0 z : St} {N : Nat} {K15 : Nat → Int32 → St → Option (Int32 × St)} {x0 : Nat} {x2 : Int32} (hK15 : ∀ a0 a1 a2, zEq zClP z0 a2 → zPr zClP z0 (K15 a0 a1 a2)) (h : zEq zClP z0 z) : zPr zClP z0 (fX19_takeFrame_15b N K15 x0 x2 z) := by
  unfold fX19_takeFrame_15b
  exact zp_i (zp_s h) (zp_k (zp_k (zp_lA h rfl (fun z4 h1 => zp_l (fun v5 => hK15 _ _ _ h1)))))
theorem pX19_takeFrame_15 {z0 : St} {N : Nat} : ∀ (n : Nat) (y0 : Nat) (y1 : Int32) (z : St), zEq zClP z0 z → zPr zClP z0 (fX19_takeFrame_15 N n y0 y1 z) := by
  intro n
  induction n with
  | zero => intro y0 y1 z h; exact zp_n
  | succ n ih => intro y0 y1 z h; exact pX19_takeFrame_15b  (fun _ _ _ h => ih _ _ _ h) h
theorem pX19_takeFrame {z0 z : St} {N : Nat} {x0 : Nat} {x1 : Int32} (h : zEq zClP z0 z) : zPr zClP z0 (fX19_takeFrame N x0 x1 z) := by
  unfold fX19_takeFrame
  exact zp_lI h rfl (fun z1 h1 => zp_l (fun v2 => pX19_takeFrame_15  _ _ _ _ h1))
theorem pX19_carry_144 {z0 z : St} {N : Nat} {K54 : Nat → Nat → Int32 → Int32 → Int32 → Int32 → Int32 → St → Option (Int32 × St)} {x0 : Nat} {x1 : Nat} {x2 : Int32} {x3 : Int32} {x5 : Int32} {x6 : Int32} {x7 : Int32} {x8 : Int32} {s0 : Nat} {s1 : Int32} {s2 : Int32} {s3 : Int32} (hK54 : ∀ a0 a1 a2 a3 a4 a5 a6 a7, zEq zClP z0 a7 → zPr zClP z0 (K54 a0 a1 a2 a3 a4 a5 a6 a7)) (h : zEq zClP z0 z) : zPr zClP z0 (fX19_carry_144 N K54 x0 x1 x2 x3 x5 x6 x7 x8 s0 s1 s2 s3 z) := by
  unfold fX19_carry_144
  exact zp_c (pX19_set  h) (fun _ z2 h1 => zp_c (pX19_set  h1) (fun _ z6 h2 => zp_l (fun y9 => zp_d (fun a10 => zp_lI h2 rfl (fun z11 h3 => zp_c (pX19_put  h3) (fun _ z13 h4 => zp_c (pX19_drop  h4) (fun _ z17 h5 => zp_l (fun v20 => hK54 _ _ _ _ _ _ _ _ h5))))))))
theorem pX19_carry_139 {z0 z : St} {N : Nat} {K54 : Nat → Nat → Int32 → Int32 → Int32 → Int32 → Int32 → St → Option (Int32 × St)} {x0 : Nat} {x1 : Nat} {x2 : Int32} {x3 : Int32} {x5 : Int32} {x6 : Int32} {x7 : Int32} {x8 : Int32} {s0 : Nat} {s1 : Int32} {s2 : Int32} (hK54 : ∀ a0 a1 a2 a3 a4 a5 a6 a7, zEq zClP z0 a7 → zPr zClP z0 (K54 a0 a1 a2 a3 a4 a5 a6 a7)) (h : zEq zClP z0 z) : zPr zClP z0 (fX19_carry_139 N K54 x0 x1 x2 x3 x5 x6 x7 x8 s0 s1 s2 z) := by
  unfold fX19_carry_139
  exact pX19_carry_144 hK54 h
theorem pX19_carry_110 {z0 z : St} {N : Nat} {K54 : Nat → Nat → Int32 → Int32 → Int32 → Int32 → Int32 → St → Option (Int32 × St)} {x0 : Nat} {x1 : Nat} {x2 : Int32} {x3 : Int32} {x5 : Int32} {x6 : Int32} {x7 : Int32} {x8 : Int32} {s0 : Nat} {s1 : Int32} {s2 : Int32} {s3 : Int32} (hK54 : ∀ a0 a1 a2 a3 a4 a5 a6 a7, zEq zClP z0 a7 → zPr zClP z0 (K54 a0 a1 a2 a3 a4 a5 a6 a7)) (h : zEq zClP z0 z) : zPr zClP z0 (fX19_carry_110 N K54 x0 x1 x2 x3 x5 x6 x7 x8 s0 s1 s2 s3 z) := by
  unfold fX19_carry_110
  exact zp_c (pX19_set  h) (fun _ z2 h1 => zp_c (pX19_of  h1) (fun r5 z6 h2 => zp_i (pX19_carry_139 hK54 h2) (zp_i (pX19_carry_144 hK54 h2) (pX19_carry_139 hK54 h2))))
theorem pX19_carry_54b {z0 z : St} {N : Nat} {K54 : Nat → Nat → Int32 → Int32 → Int32 → Int32 → Int32 → St → Option (Int32 × St)} {x0 : Nat} {x1 : Nat} {x2 : Int32} {x3 : Int32} {x5 : Int32} {x6 : Int32} {x7 : Int32} (hK54 : ∀ a0 a1 a2 a3 a4 a5 a6 a7, zEq zClP z0 a7 → zPr zClP z0 (K54 a0 a1 a2 a3 a4 a5 a6 a7)) (h : zEq zClP z0 z) : zPr zClP z0 (fX19_carry_54b N K54 x0 x1 x2 x3 x5 x6 x7 z) := by
  unfold fX19_carry_54b
  exact zp_i (zp_s h) (zp_c (pX19_copyOf  h) (fun r2 z3 h1 => zp_c (pX19_of  h1) (fun r6 z7 h2 => zp_c (pX19_set  h2) (fun _ z11 h3 => zp_i (pX19_carry_110 hK54 h3) (pX19_carry_110 hK54 h3)))))
theorem pX19_carry_54 {z0 : St} {N : Nat} : ∀ (n : Nat) (y0 : Nat) (y1 : Nat) (y2 : Int32) (y3 : Int32) (y4 : Int32) (y5 : Int32) (y6 : Int32) (z : St), zEq zClP z0 z → zPr zClP z0 (fX19_carry_54 N n y0 y1 y2 y3 y4 y5 y6 z) := by
  intro n
  induction n with
  | zero => intro y0 y1 y2 y3 y4 y5 y6 z h; exact zp_n
  | succ n ih => intro y0 y1 y2 y3 y4 y5 y6 z h; exact pX19_carry_54b  (fun _ _ _ _ _ _ _ _ h => ih _ _ _ _ _ _ _ _ h) h
theorem pX19_carry {z0 z : St} {N : Nat} {x0 : Nat} {x1 : Nat} {x2 : Int32} {x3 : Int32} (h : zEq zClP z0 z) : zPr zClP z0 (fX19_carry N x0 x1 x2 x3 z) := by
  unfold fX19_carry
  exact zp_l (fun y1 => zp_d (fun a2 => zp_l (fun v3 => zp_c (pX19_of  h) (fun r4 z5 h1 => zp_i (zp_l (fun v9 => zp_c (pX19_of  h1) (fun r10 z11 h2 => pX19_carry_54  _ _ _ _ _ _ _ _ _ h2))) (zp_c (pX19_put  h1) (fun _ z15 h3 => zp_s h3))))))
theorem pX19_knows {z0 z : St} {N : Nat} {x0 : Nat} {x1 : Nat} {x2 : Int32} (h : zEq zClP z0 z) : zPr zClP z0 (fX19_knows N x0 x1 x2 z) := by
  unfold fX19_knows
  exact zp_k (zp_i (zp_s h) (zp_s h))
theorem pX19_ask {z0 z : St} {N : Nat} {x0 : Nat} {x1 : Nat} {x2 : Int32} (h : zEq zClP z0 z) : zPr zClP z0 (fX19_ask N x0 x1 x2 z) := by
  unfold fX19_ask
  exact zp_l (fun y1 => zp_d (fun a2 => zp_c (pX19_put  h) (fun _ z4 h1 => zp_s h1)))
theorem pX19_deliver_102 {z0 z : St} {N : Nat} {x0 : Nat} {x1 : Nat} (h : zEq zClP z0 z) : zPr zClP z0 (fX19_deliver_102 N x0 x1 z) := by
  unfold fX19_deliver_102
  exact zp_i (zp_s h) (zp_k (zp_l (fun v3 => zp_c (pX18_takeWaiting  h) (fun r4 z5 h1 => zp_c (pX19_drop  h1) (fun _ z9 h2 => zp_c (pX19_stir  h2) (fun _ z13 h3 => zp_c (pX18_someWaitFor  h3) (fun r16 z17 h4 => zp_i (zp_s h4) (zp_c (pX18_askingOf  h4) (fun r21 z22 h5 => zp_c (pX18_endAsking  h5) (fun _ z26 h6 => zp_s h6))))))))))
theorem pX19_deliver {z0 z : St} {N : Nat} {x0 : Nat} {x1 : Nat} {x2 : Int32} {x3 : Int32} (h : zEq zClP z0 z) : zPr zClP z0 (fX19_deliver N x0 x1 x2 x3 z) := by
  unfold fX19_deliver
  exact zp_c (pX19_knows  h) (fun r1 z2 h1 => zp_i (zp_c (pX18_someWaitFor  h1) (fun r6 z7 h2 => zp_c (pX19_copyOf  h2) (fun r10 z11 h3 => zp_k (zp_lA h3 rfl (fun z15 h4 => zp_k (zp_lA h4 rfl (fun z17 h5 => zp_lI h5 rfl (fun z18 h6 => zp_i (pX19_deliver_102  h6) (zp_k (zp_lA h6 rfl (fun z21 h7 => zp_k (zp_lA h7 rfl (fun z23 h8 => zp_lI h8 rfl (fun z24 h9 => zp_c (pX19_ask  h9) (fun _ z26 h10 => pX19_deliver_102  h10))))))))))))))) (zp_c (pX19_carry  h1) (fun _ z30 h11 => zp_s h11)))
theorem pX19_firstWaiting_2b {z0 z : St} {N : Nat} {K2 : Nat → Int32 → Int32 → St → Option (Int32 × St)} {x1 : Nat} {x2 : Int32} {x3 : Int32} (hK2 : ∀ a0 a1 a2 a3, zEq zClP z0 a3 → zPr zClP z0 (K2 a0 a1 a2 a3)) (h : zEq zClP z0 z) : zPr zClP z0 (fX19_firstWaiting_2b N K2 x1 x2 x3 z) := by
  unfold fX19_firstWaiting_2b
  exact zp_i (zp_s h) (zp_k (zp_i (zp_l (fun v4 => hK2 _ _ _ _ h)) (zp_c (pX18_takeWaiting  h) (fun r5 z6 h1 => zp_s h1))))
theorem pX19_firstWaiting_2 {z0 : St} {N : Nat} : ∀ (n : Nat) (y0 : Nat) (y1 : Int32) (y2 : Int32) (z : St), zEq zClP z0 z → zPr zClP z0 (fX19_firstWaiting_2 N n y0 y1 y2 z) := by
  intro n
  induction n with
  | zero => intro y0 y1 y2 z h; exact zp_n
  | succ n ih => intro y0 y1 y2 z h; exact pX19_firstWaiting_2b  (fun _ _ _ _ h => ih _ _ _ _ h) h
theorem pX19_firstWaiting {z0 z : St} {N : Nat} {x0 : Nat} {x1 : Nat} {x2 : Int32} (h : zEq zClP z0 z) : zPr zClP z0 (fX19_firstWaiting N x0 x1 x2 z) := by
  unfold fX19_firstWaiting
  exact pX19_firstWaiting_2  _ _ _ _ _ h
theorem pX19_isOwn_2b {z0 z : St} {N : Nat} {K2 : Nat → Int32 → Int32 → St → Option (Int32 × St)} {x1 : Nat} {x2 : Int32} {x3 : Int32} (hK2 : ∀ a0 a1 a2 a3, zEq zClP z0 a3 → zPr zClP z0 (K2 a0 a1 a2 a3)) (h : zEq zClP z0 z) : zPr zClP z0 (fX19_isOwn_2b N K2 x1 x2 x3 z) := by
  unfold fX19_isOwn_2b
  exact zp_i (zp_s h) (zp_k (zp_l (fun y3 => zp_d (fun a4 => zp_c (pX18_address  h) (fun r5 z6 h1 => zp_i (zp_l (fun v10 => hK2 _ _ _ _ h1)) (zp_s h1))))))
theorem pX19_isOwn_2 {z0 : St} {N : Nat} : ∀ (n : Nat) (y0 : Nat) (y1 : Int32) (y2 : Int32) (z : St), zEq zClP z0 z → zPr zClP z0 (fX19_isOwn_2 N n y0 y1 y2 z) := by
  intro n
  induction n with
  | zero => intro y0 y1 y2 z h; exact zp_n
  | succ n ih => intro y0 y1 y2 z h; exact pX19_isOwn_2b  (fun _ _ _ _ h => ih _ _ _ _ h) h
theorem pX19_isOwn {z0 z : St} {N : Nat} {x0 : Nat} {x1 : Nat} {x2 : Int32} (h : zEq zClP z0 z) : zPr zClP z0 (fX19_isOwn N x0 x1 x2 z) := by
  unfold fX19_isOwn
  exact pX19_isOwn_2  _ _ _ _ _ h
theorem pX19_act_100 {z0 z : St} {N : Nat} {K3 : Nat → Nat → Int32 → Int32 → Int32 → Int32 → Int32 → St → Option (Int32 × St)} {x0 : Nat} {x1 : Nat} {x2 : Int32} {x3 : Int32} {x4 : Int32} {x5 : Int32} {x6 : Int32} (hK3 : ∀ a0 a1 a2 a3 a4 a5 a6 a7, zEq zClP z0 a7 → zPr zClP z0 (K3 a0 a1 a2 a3 a4 a5 a6 a7)) (h : zEq zClP z0 z) : zPr zClP z0 (fX19_act_100 N K3 x0 x1 x2 x3 x4 x5 x6 z) := by
  unfold fX19_act_100
  exact zp_l (fun v1 => hK3 _ _ _ _ _ _ _ _ h)
theorem pX19_act_3b {z0 z : St} {N : Nat} {K3 : Nat → Nat → Int32 → Int32 → Int32 → Int32 → Int32 → St → Option (Int32 × St)} {x0 : Nat} {x1 : Nat} {x2 : Int32} {x3 : Int32} {x4 : Int32} {x5 : Int32} {x6 : Int32} (hK3 : ∀ a0 a1 a2 a3 a4 a5 a6 a7, zEq zClP z0 a7 → zPr zClP z0 (K3 a0 a1 a2 a3 a4 a5 a6 a7)) (h : zEq zClP z0 z) : zPr zClP z0 (fX19_act_3b N K3 x0 x1 x2 x3 x4 x5 x6 z) := by
  unfold fX19_act_3b
  exact zp_i (zp_s h) (zp_i (zp_s h) (zp_k (zp_l (fun y4 => zp_d (fun a5 => zp_l (fun y6 => zp_k (zp_l (fun y8 => zp_d (fun a9 => zp_i (pX19_act_100 hK3 h) (zp_d (fun a11 => zp_i (pX19_act_100 hK3 h) (zp_c (pX19_isOwn  h) (fun r13 z14 h1 => zp_i (pX19_act_100 hK3 h1) (zp_i (pX19_act_100 hK3 h1) (zp_i (pX19_act_100 hK3 h1) (zp_i (pX19_act_100 hK3 h1) (zp_c (pX14_become  h1) (fun _ z22 h2 => pX19_act_100 hK3 h2))))))))))))))))))
theorem pX19_act_3 {z0 : St} {N : Nat} : ∀ (n : Nat) (y0 : Nat) (y1 : Nat) (y2 : Int32) (y3 : Int32) (y4 : Int32) (y5 : Int32) (y6 : Int32) (z : St), zEq zClP z0 z → zPr zClP z0 (fX19_act_3 N n y0 y1 y2 y3 y4 y5 y6 z) := by
  intro n
  induction n with
  | zero => intro y0 y1 y2 y3 y4 y5 y6 z h; exact zp_n
  | succ n ih => intro y0 y1 y2 y3 y4 y5 y6 z h; exact pX19_act_3b  (fun _ _ _ _ _ _ _ _ h => ih _ _ _ _ _ _ _ _ h) h
theorem pX19_act {z0 z : St} {N : Nat} {x0 : Nat} {x1 : Nat} {x2 : Int32} {x3 : Int32} {x4 : Int32} {x5 : Int32} (h : zEq zClP z0 z) : zPr zClP z0 (fX19_act N x0 x1 x2 x3 x4 x5 z) := by
  unfold fX19_act
  exact pX19_act_3  _ _ _ _ _ _ _ _ _ h
theorem pX19_isAddress {z0 z : St} {N : Nat} {x0 : Nat} {x1 : Int32} (h : zEq zClP z0 z) : zPr zClP z0 (fX19_isAddress N x0 x1 z) := by
  unfold fX19_isAddress
  exact zp_l (fun v1 => zp_i (zp_s h) (zp_i (zp_s h) (zp_i (zp_s h) (zp_i (zp_s h) (zp_s h)))))
theorem pX19_isOf {z0 z : St} {N : Nat} {x0 : Int32} {x1 : Int32} (h : zEq zClP z0 z) : zPr zClP z0 (fX19_isOf N x0 x1 z) := by
  unfold fX19_isOf
  exact zp_i (zp_s h) (zp_i (zp_s h) (zp_s h))
theorem pX19_hostSends_L1_82b {z0 z : St} {N : Nat} {K82 : Nat → Nat → Int32 → Nat → Int32 → St → Option (Int32 × St)} {x0 : Nat} {x1 : Nat} {x2 : Int32} {x3 : Nat} {x5 : Int32} (hK82 : ∀ a0 a1 a2 a3 a4 a5, zEq zClP z0 a5 → zPr zClP z0 (K82 a0 a1 a2 a3 a4 a5)) (h : zEq zClP z0 z) : zPr zClP z0 (fX19_hostSends_L1_82b N K82 x0 x1 x2 x3 x5 z) := by
  unfold fX19_hostSends_L1_82b
  exact zp_l (fun y1 => zp_d (fun a2 => zp_i (zp_n) (zp_l (fun y4 => zp_d (fun a5 => zp_k (zp_l (fun y7 => zp_d (fun a8 => zp_l (fun y9 => zp_d (fun a10 => zp_i (zp_l (fun v12 => hK82 _ _ _ _ _ _ h)) (zp_c (pX19_deliver  h) (fun _ z14 h1 => zp_s h1))))))))))))
theorem pX19_hostSends_L1_82 {z0 : St} {N : Nat} : ∀ (n : Nat) (y0 : Nat) (y1 : Nat) (y2 : Int32) (y3 : Nat) (y4 : Int32) (z : St), zEq zClP z0 z → zPr zClP z0 (fX19_hostSends_L1_82 N n y0 y1 y2 y3 y4 z) := by
  intro n
  induction n with
  | zero => intro y0 y1 y2 y3 y4 z h; exact zp_n
  | succ n ih => intro y0 y1 y2 y3 y4 z h; exact pX19_hostSends_L1_82b  (fun _ _ _ _ _ _ h => ih _ _ _ _ _ _ h) h
theorem pX19_hostSends_L1 {z0 z : St} {N : Nat} {x0 : Nat} {x1 : Nat} {x2 : Int32} (h : zEq zClP z0 z) : zPr zClP z0 (fX19_hostSends_L1 N x0 x1 x2 z) := by
  unfold fX19_hostSends_L1
  exact zp_i (zp_k (zp_l (fun y3 => zp_c (pX19_set  h) (fun _ z5 h1 => zp_c (pX19_of  h1) (fun r8 z9 h2 => zp_d (fun a12 => zp_l (fun y13 => zp_d (fun a14 => zp_c (pX19_isOf  h2) (fun r15 z16 h3 => zp_i (pX19_hostSends_L1_82  _ _ _ _ _ _ _ h3) (zp_c (pX19_isAddress  h3) (fun r20 z21 h4 => zp_i (zp_n) (zp_c (pX19_deliver  h4) (fun _ z26 h5 => zp_s h5))))))))))))) (zp_s h)
theorem pX19_make_72 {z0 z : St} {N : Nat} {x0 : Nat} {x3 : Int32} {x6 : Int32} {s0 : Nat} {s1 : Int32} {s2 : Int32} {s3 : Int32} (h : zEq zClP z0 z) : zPr zClP z0 (fX19_make_72 N x0 x3 x6 s0 s1 s2 s3 z) := by
  unfold fX19_make_72
  exact zp_c (pX19_set  h) (fun _ z2 h1 => zp_c (pX19_set  h1) (fun _ z6 h2 => zp_s h2))
theorem pX19_make_66 {z0 z : St} {N : Nat} {x0 : Nat} {x3 : Int32} {x6 : Int32} {s0 : Nat} {s1 : Int32} {s2 : Int32} (h : zEq zClP z0 z) : zPr zClP z0 (fX19_make_66 N x0 x3 x6 s0 s1 s2 z) := by
  unfold fX19_make_66
  exact pX19_make_72  h
theorem pX19_make {z0 z : St} {N : Nat} {x0 : Nat} {x1 : Nat} {x2 : Int32} {x3 : Int32} {x4 : Int32} {x5 : Int32} (h : zEq zClP z0 z) : zPr zClP z0 (fX19_make N x0 x1 x2 x3 x4 x5 z) := by
  unfold fX19_make
  exact zp_c (pX19_newDatagram  h) (fun r1 z2 h1 => zp_c (pX19_set  h1) (fun _ z6 h2 => zp_c (pX19_set  h2) (fun _ z10 h3 => zp_c (pX19_set  h3) (fun _ z14 h4 => zp_c (pX19_set  h4) (fun _ z18 h5 => zp_lI h5 rfl (fun z21 h6 => zp_i (pX19_make_66  h6) (zp_i (pX19_make_72  h6) (pX19_make_66  h6))))))))
theorem pX19_stationOf_2b {z0 z : St} {N : Nat} {K2 : Nat → Nat → Int32 → St → Option (Int32 × St)} {x0 : Nat} {x1 : Nat} {x2 : Int32} (hK2 : ∀ a0 a1 a2 a3, zEq zClP z0 a3 → zPr zClP z0 (K2 a0 a1 a2 a3)) (h : zEq zClP z0 z) : zPr zClP z0 (fX19_stationOf_2b N K2 x0 x1 x2 z) := by
  unfold fX19_stationOf_2b
  exact zp_i (zp_s h) (zp_k (zp_l (fun y3 => zp_d (fun a4 => zp_l (fun y5 => zp_i (zp_l (fun v7 => hK2 _ _ _ _ h)) (zp_k (zp_l (fun y9 => zp_d (fun a10 => zp_s h)))))))))
theorem pX19_stationOf_2 {z0 : St} {N : Nat} : ∀ (n : Nat) (y0 : Nat) (y1 : Nat) (y2 : Int32) (z : St), zEq zClP z0 z → zPr zClP z0 (fX19_stationOf_2 N n y0 y1 y2 z) := by
  intro n
  induction n with
  | zero => intro y0 y1 y2 z h; exact zp_n
  | succ n ih => intro y0 y1 y2 z h; exact pX19_stationOf_2b  (fun _ _ _ _ h => ih _ _ _ _ h) h
theorem pX19_stationOf {z0 z : St} {N : Nat} {x0 : Nat} {x1 : Nat} (h : zEq zClP z0 z) : zPr zClP z0 (fX19_stationOf N x0 x1 z) := by
  unfold fX19_stationOf
  exact pX19_stationOf_2  _ _ _ _ _ h
theorem pX19_routerSends_L1_39 {z0 z : St} {N : Nat} {x0 : Nat} {x1 : Nat} {x2 : Int32} (h : zEq zClP z0 z) : zPr zClP z0 (fX19_routerSends_L1_39 N x0 x1 x2 z) := by
  unfold fX19_routerSends_L1_39
  exact zp_n
theorem pX19_routerSends_L1_96 {z0 z : St} {N : Nat} {K52 : Nat → Nat → Int32 → Int32 → Int32 → Int32 → Option Nat → Int32 → St → Option (Int32 × St)} {x0 : Nat} {x1 : Nat} {x2 : Int32} {x3 : Int32} {x4 : Int32} {x5 : Int32} {x7 : Int32} {s0 : Option Nat} (hK52 : ∀ a0 a1 a2 a3 a4 a5 a6 a7 a8, zEq zClP z0 a8 → zPr zClP z0 (K52 a0 a1 a2 a3 a4 a5 a6 a7 a8)) (h : zEq zClP z0 z) : zPr zClP z0 (fX19_routerSends_L1_96 N K52 x0 x1 x2 x3 x4 x5 x7 s0 z) := by
  unfold fX19_routerSends_L1_96
  exact zp_l (fun v1 => hK52 _ _ _ _ _ _ _ _ _ h)
theorem pX19_routerSends_L1_164 {z0 z : St} {N : Nat} {x0 : Nat} {x2 : Int32} {x6 : Option Nat} {x7 : Int32} {s0 : Nat} {s1 : Int32} {s2 : Int32} (h : zEq zClP z0 z) : zPr zClP z0 (fX19_routerSends_L1_164 N x0 x2 x6 x7 s0 s1 s2 z) := by
  unfold fX19_routerSends_L1_164
  exact zp_lI h rfl (fun z1 h1 => zp_d (fun a2 => zp_c (pX19_deliver  h1) (fun _ z4 h2 => zp_s h2)))
theorem pX19_routerSends_L1_150 {z0 z : St} {N : Nat} {x0 : Nat} {x1 : Nat} {x2 : Int32} {x3 : Int32} {x6 : Option Nat} {x7 : Int32} (h : zEq zClP z0 z) : zPr zClP z0 (fX19_routerSends_L1_150 N x0 x1 x2 x3 x6 x7 z) := by
  unfold fX19_routerSends_L1_150
  exact zp_i (pX19_routerSends_L1_164  h) (pX19_routerSends_L1_164  h)
theorem pX19_routerSends_L1_52b {z0 z : St} {N : Nat} {K52 : Nat → Nat → Int32 → Int32 → Int32 → Int32 → Option Nat → Int32 → St → Option (Int32 × St)} {x0 : Nat} {x1 : Nat} {x2 : Int32} {x3 : Int32} {x4 : Int32} {x5 : Int32} {x6 : Option Nat} {x7 : Int32} (hK52 : ∀ a0 a1 a2 a3 a4 a5 a6 a7 a8, zEq zClP z0 a8 → zPr zClP z0 (K52 a0 a1 a2 a3 a4 a5 a6 a7 a8)) (h : zEq zClP z0 z) : zPr zClP z0 (fX19_routerSends_L1_52b N K52 x0 x1 x2 x3 x4 x5 x6 x7 z) := by
  unfold fX19_routerSends_L1_52b
  exact zp_i (zp_l (fun v2 => zp_k (zp_i (pX19_routerSends_L1_150  h) (zp_k (zp_k (zp_l (fun y7 => zp_d (fun a8 => zp_l (fun y9 => zp_d (fun a10 => zp_d (fun a11 => zp_c (pX19_stationOf  h) (fun r12 z13 h1 => pX19_routerSends_L1_150  h1)))))))))))) (zp_k (zp_l (fun y17 => zp_d (fun a18 => zp_l (fun y19 => zp_d (fun a20 => zp_k (zp_i (pX19_routerSends_L1_96 hK52 h) (zp_k (zp_l (fun y24 => pX19_routerSends_L1_96 hK52 h))))))))))
theorem pX19_routerSends_L1_52 {z0 : St} {N : Nat} : ∀ (n : Nat) (y0 : Nat) (y1 : Nat) (y2 : Int32) (y3 : Int32) (y4 : Int32) (y5 : Int32) (y6 : Option Nat) (y7 : Int32) (z : St), zEq zClP z0 z → zPr zClP z0 (fX19_routerSends_L1_52 N n y0 y1 y2 y3 y4 y5 y6 y7 z) := by
  intro n
  induction n with
  | zero => intro y0 y1 y2 y3 y4 y5 y6 y7 z h; exact zp_n
  | succ n ih => intro y0 y1 y2 y3 y4 y5 y6 y7 z h; exact pX19_routerSends_L1_52b  (fun _ _ _ _ _ _ _ _ _ h => ih _ _ _ _ _ _ _ _ _ h) h
theorem pX19_routerSends_L1 {z0 z : St} {N : Nat} {x0 : Nat} {x1 : Nat} {x2 : Int32} {x3 : Int32} (h : zEq zClP z0 z) : zPr zClP z0 (fX19_routerSends_L1 N x0 x1 x2 x3 z) := by
  unfold fX19_routerSends_L1
  exact zp_c (pX19_of  h) (fun r1 z2 h1 => zp_l (fun v5 => zp_c (pX19_isAddress  h1) (fun r6 z7 h2 => zp_i (pX19_routerSends_L1_39  h2) (zp_k (zp_i (pX19_routerSends_L1_52  _ _ _ _ _ _ _ _ _ _ h2) (pX19_routerSends_L1_39  h2))))))
theorem pX19_comeBack_L1_186 {z0 z : St} {N : Nat} {x0 : Nat} {x7 : Int32} (h : zEq zClP z0 z) : zPr zClP z0 (fX19_comeBack_L1_186 N x0 x7 z) := by
  unfold fX19_comeBack_L1_186
  exact zp_c (pX19_drop  h) (fun _ z2 h1 => zp_s h1)
theorem pX19_comeBack_L1 {z0 z : St} {N : Nat} {x0 : Nat} {x1 : Nat} {x2 : Int32} (h : zEq zClP z0 z) : zPr zClP z0 (fX19_comeBack_L1 N x0 x1 x2 z) := by
  unfold fX19_comeBack_L1
  exact zp_c (pX19_of  h) (fun r1 z2 h1 => zp_i (zp_s h1) (zp_c (pX19_of  h1) (fun r6 z7 h2 => zp_i (zp_c (pX19_of  h2) (fun r11 z12 h3 => zp_c (pX19_of  h3) (fun r15 z16 h4 => zp_c (pX19_of  h4) (fun r19 z20 h5 => zp_c (pX19_seg  h5) (fun r23 z24 h6 => zp_c (pX19_of  h6) (fun r27 z28 h7 => zp_c (pX19_seg  h7) (fun r31 z32 h8 => zp_c (pX19_isOwn  h8) (fun r35 z36 h9 => zp_i (zp_c (pX19_of  h9) (fun r40 z41 h10 => zp_k (zp_l (fun y45 => zp_d (fun a46 => zp_c (pX18_address  h10) (fun r47 z48 h11 => zp_c (pX19_make  h11) (fun r51 z52 h12 => zp_c (pX19_set  h12) (fun _ z56 h13 => zp_c (pX19_set  h13) (fun _ z60 h14 => zp_c (pX19_set  h14) (fun _ z64 h15 => zp_c (pX19_set  h15) (fun _ z68 h16 => zp_i (zp_c (pX19_hostSends_L1  h16) (fun _ z73 h17 => pX19_comeBack_L1_186  h17)) (zp_c (pX19_routerSends_L1  h16) (fun _ z77 h18 => pX19_comeBack_L1_186  h18))))))))))))) (zp_lI h9 rfl (fun z80 h19 => zp_c (pX19_act  h19) (fun _ z82 h20 => zp_s h20))))))))))) (zp_s h2))))
theorem pX19_hostSends_82b {z0 z : St} {N : Nat} {K82 : Nat → Nat → Int32 → Nat → Int32 → St → Option (Int32 × St)} {x0 : Nat} {x1 : Nat} {x2 : Int32} {x3 : Nat} {x5 : Int32} (hK82 : ∀ a0 a1 a2 a3 a4 a5, zEq zClP z0 a5 → zPr zClP z0 (K82 a0 a1 a2 a3 a4 a5)) (h : zEq zClP z0 z) : zPr zClP z0 (fX19_hostSends_82b N K82 x0 x1 x2 x3 x5 z) := by
  unfold fX19_hostSends_82b
  exact zp_l (fun y1 => zp_d (fun a2 => zp_i (zp_c (pX19_comeBack_L1  h) (fun _ z5 h1 => zp_s h1)) (zp_l (fun y8 => zp_d (fun a9 => zp_k (zp_l (fun y11 => zp_d (fun a12 => zp_l (fun y13 => zp_d (fun a14 => zp_i (zp_l (fun v16 => hK82 _ _ _ _ _ _ h)) (zp_c (pX19_deliver  h) (fun _ z18 h2 => zp_s h2))))))))))))
theorem pX19_hostSends_82 {z0 : St} {N : Nat} : ∀ (n : Nat) (y0 : Nat) (y1 : Nat) (y2 : Int32) (y3 : Nat) (y4 : Int32) (z : St), zEq zClP z0 z → zPr zClP z0 (fX19_hostSends_82 N n y0 y1 y2 y3 y4 z) := by
  intro n
  induction n with
  | zero => intro y0 y1 y2 y3 y4 z h; exact zp_n
  | succ n ih => intro y0 y1 y2 y3 y4 z h; exact pX19_hostSends_82b  (fun _ _ _ _ _ _ h => ih _ _ _ _ _ _ h) h
theorem pX19_hostSends {z0 z : St} {N : Nat} {x0 : Nat} {x1 : Nat} {x2 : Int32} (h : zEq zClP z0 z) : zPr zClP z0 (fX19_hostSends N x0 x1 x2 z) := by
  unfold fX19_hostSends
  exact zp_i (zp_k (zp_l (fun y3 => zp_c (pX19_set  h) (fun _ z5 h1 => zp_c (pX19_of  h1) (fun r8 z9 h2 => zp_d (fun a12 => zp_l (fun y13 => zp_d (fun a14 => zp_c (pX19_isOf  h2) (fun r15 z16 h3 => zp_i (pX19_hostSends_82  _ _ _ _ _ _ _ h3) (zp_c (pX19_isAddress  h3) (fun r20 z21 h4 => zp_i (zp_c (pX19_comeBack_L1  h4) (fun _ z26 h5 => zp_s h5)) (zp_c (pX19_deliver  h4) (fun _ z30 h6 => zp_s h6))))))))))))) (zp_s h)
theorem pX19_routerSends_39 {z0 z : St} {N : Nat} {x0 : Nat} {x1 : Nat} {x2 : Int32} (h : zEq zClP z0 z) : zPr zClP z0 (fX19_routerSends_39 N x0 x1 x2 z) := by
  unfold fX19_routerSends_39
  exact zp_c (pX19_comeBack_L1  h) (fun _ z2 h1 => zp_s h1)
theorem pX19_routerSends_96 {z0 z : St} {N : Nat} {K52 : Nat → Nat → Int32 → Int32 → Int32 → Int32 → Option Nat → Int32 → St → Option (Int32 × St)} {x0 : Nat} {x1 : Nat} {x2 : Int32} {x3 : Int32} {x4 : Int32} {x5 : Int32} {x7 : Int32} {s0 : Option Nat} (hK52 : ∀ a0 a1 a2 a3 a4 a5 a6 a7 a8, zEq zClP z0 a8 → zPr zClP z0 (K52 a0 a1 a2 a3 a4 a5 a6 a7 a8)) (h : zEq zClP z0 z) : zPr zClP z0 (fX19_routerSends_96 N K52 x0 x1 x2 x3 x4 x5 x7 s0 z) := by
  unfold fX19_routerSends_96
  exact zp_l (fun v1 => hK52 _ _ _ _ _ _ _ _ _ h)
theorem pX19_routerSends_164 {z0 z : St} {N : Nat} {x0 : Nat} {x2 : Int32} {x6 : Option Nat} {x7 : Int32} {s0 : Nat} {s1 : Int32} {s2 : Int32} (h : zEq zClP z0 z) : zPr zClP z0 (fX19_routerSends_164 N x0 x2 x6 x7 s0 s1 s2 z) := by
  unfold fX19_routerSends_164
  exact zp_lI h rfl (fun z1 h1 => zp_d (fun a2 => zp_c (pX19_deliver  h1) (fun _ z4 h2 => zp_s h2)))
theorem pX19_routerSends_150 {z0 z : St} {N : Nat} {x0 : Nat} {x1 : Nat} {x2 : Int32} {x3 : Int32} {x6 : Option Nat} {x7 : Int32} (h : zEq zClP z0 z) : zPr zClP z0 (fX19_routerSends_150 N x0 x1 x2 x3 x6 x7 z) := by
  unfold fX19_routerSends_150
  exact zp_i (pX19_routerSends_164  h) (pX19_routerSends_164  h)
theorem pX19_routerSends_52b {z0 z : St} {N : Nat} {K52 : Nat → Nat → Int32 → Int32 → Int32 → Int32 → Option Nat → Int32 → St → Option (Int32 × St)} {x0 : Nat} {x1 : Nat} {x2 : Int32} {x3 : Int32} {x4 : Int32} {x5 : Int32} {x6 : Option Nat} {x7 : Int32} (hK52 : ∀ a0 a1 a2 a3 a4 a5 a6 a7 a8, zEq zClP z0 a8 → zPr zClP z0 (K52 a0 a1 a2 a3 a4 a5 a6 a7 a8)) (h : zEq zClP z0 z) : zPr zClP z0 (fX19_routerSends_52b N K52 x0 x1 x2 x3 x4 x5 x6 x7 z) := by
  unfold fX19_routerSends_52b
  exact zp_i (zp_l (fun v2 => zp_k (zp_i (pX19_routerSends_150  h) (zp_k (zp_k (zp_l (fun y7 => zp_d (fun a8 => zp_l (fun y9 => zp_d (fun a10 => zp_d (fun a11 => zp_c (pX19_stationOf  h) (fun r12 z13 h1 => pX19_routerSends_150  h1)))))))))))) (zp_k (zp_l (fun y17 => zp_d (fun a18 => zp_l (fun y19 => zp_d (fun a20 => zp_k (zp_i (pX19_routerSends_96 hK52 h) (zp_k (zp_l (fun y24 => pX19_routerSends_96 hK52 h))))))))))
theorem pX19_routerSends_52 {z0 : St} {N : Nat} : ∀ (n : Nat) (y0 : Nat) (y1 : Nat) (y2 : Int32) (y3 : Int32) (y4 : Int32) (y5 : Int32) (y6 : Option Nat) (y7 : Int32) (z : St), zEq zClP z0 z → zPr zClP z0 (fX19_routerSends_52 N n y0 y1 y2 y3 y4 y5 y6 y7 z) := by
  intro n
  induction n with
  | zero => intro y0 y1 y2 y3 y4 y5 y6 y7 z h; exact zp_n
  | succ n ih => intro y0 y1 y2 y3 y4 y5 y6 y7 z h; exact pX19_routerSends_52b  (fun _ _ _ _ _ _ _ _ _ h => ih _ _ _ _ _ _ _ _ _ h) h
theorem pX19_routerSends {z0 z : St} {N : Nat} {x0 : Nat} {x1 : Nat} {x2 : Int32} {x3 : Int32} (h : zEq zClP z0 z) : zPr zClP z0 (fX19_routerSends N x0 x1 x2 x3 z) := by
  unfold fX19_routerSends
  exact zp_c (pX19_of  h) (fun r1 z2 h1 => zp_l (fun v5 => zp_c (pX19_isAddress  h1) (fun r6 z7 h2 => zp_i (pX19_routerSends_39  h2) (zp_k (zp_i (pX19_routerSends_52  _ _ _ _ _ _ _ _ _ _ h2) (pX19_routerSends_39  h2))))))
theorem pX19_comeBack_186 {z0 z : St} {N : Nat} {x0 : Nat} {x7 : Int32} (h : zEq zClP z0 z) : zPr zClP z0 (fX19_comeBack_186 N x0 x7 z) := by
  unfold fX19_comeBack_186
  exact zp_c (pX19_drop  h) (fun _ z2 h1 => zp_s h1)
theorem pX19_comeBack {z0 z : St} {N : Nat} {x0 : Nat} {x1 : Nat} {x2 : Int32} (h : zEq zClP z0 z) : zPr zClP z0 (fX19_comeBack N x0 x1 x2 z) := by
  unfold fX19_comeBack
  exact zp_c (pX19_of  h) (fun r1 z2 h1 => zp_i (zp_s h1) (zp_c (pX19_of  h1) (fun r6 z7 h2 => zp_i (zp_c (pX19_of  h2) (fun r11 z12 h3 => zp_c (pX19_of  h3) (fun r15 z16 h4 => zp_c (pX19_of  h4) (fun r19 z20 h5 => zp_c (pX19_seg  h5) (fun r23 z24 h6 => zp_c (pX19_of  h6) (fun r27 z28 h7 => zp_c (pX19_seg  h7) (fun r31 z32 h8 => zp_c (pX19_isOwn  h8) (fun r35 z36 h9 => zp_i (zp_c (pX19_of  h9) (fun r40 z41 h10 => zp_k (zp_l (fun y45 => zp_d (fun a46 => zp_c (pX18_address  h10) (fun r47 z48 h11 => zp_c (pX19_make  h11) (fun r51 z52 h12 => zp_c (pX19_set  h12) (fun _ z56 h13 => zp_c (pX19_set  h13) (fun _ z60 h14 => zp_c (pX19_set  h14) (fun _ z64 h15 => zp_c (pX19_set  h15) (fun _ z68 h16 => zp_i (zp_c (pX19_hostSends  h16) (fun _ z73 h17 => pX19_comeBack_186  h17)) (zp_c (pX19_routerSends  h16) (fun _ z77 h18 => pX19_comeBack_186  h18))))))))))))) (zp_lI h9 rfl (fun z80 h19 => zp_c (pX19_act  h19) (fun _ z82 h20 => zp_s h20))))))))))) (zp_s h2))))
theorem pX19_askings_150 {z0 z : St} {N : Nat} {K2 : Nat → Nat → Int32 → St → Option (Int32 × St)} {x0 : Nat} {x1 : Nat} {x2 : Int32} (hK2 : ∀ a0 a1 a2 a3, zEq zClP z0 a3 → zPr zClP z0 (K2 a0 a1 a2 a3)) (h : zEq zClP z0 z) : zPr zClP z0 (fX19_askings_150 N K2 x0 x1 x2 z) := by
  unfold fX19_askings_150
  exact hK2 _ _ _ _ h
theorem pX19_askings_86b {z0 z : St} {N : Nat} {K2 : Nat → Nat → Int32 → St → Option (Int32 × St)} {K86 : Nat → Nat → Int32 → Int32 → Int32 → St → Option (Int32 × St)} {x0 : Nat} {x1 : Nat} {x2 : Int32} {x5 : Int32} {x7 : Int32} (hK2 : ∀ a0 a1 a2 a3, zEq zClP z0 a3 → zPr zClP z0 (K2 a0 a1 a2 a3)) (hK86 : ∀ a0 a1 a2 a3 a4 a5, zEq zClP z0 a5 → zPr zClP z0 (K86 a0 a1 a2 a3 a4 a5)) (h : zEq zClP z0 z) : zPr zClP z0 (fX19_askings_86b N K2 K86 x0 x1 x2 x5 x7 z) := by
  unfold fX19_askings_86b
  exact zp_i (pX19_askings_150 hK2 h) (zp_k (zp_l (fun v3 => zp_l (fun y4 => zp_d (fun a5 => zp_c (pX19_comeBack  h) (fun _ z7 h1 => zp_c (pX19_drop  h1) (fun _ z11 h2 => zp_l (fun v14 => hK86 _ _ _ _ _ _ h2))))))))
theorem pX19_askings_86 {z0 : St} {N : Nat} {K2 : Nat → Nat → Int32 → St → Option (Int32 × St)} (hK2 : ∀ a0 a1 a2 a3, zEq zClP z0 a3 → zPr zClP z0 (K2 a0 a1 a2 a3)) : ∀ (n : Nat) (y0 : Nat) (y1 : Nat) (y2 : Int32) (y3 : Int32) (y4 : Int32) (z : St), zEq zClP z0 z → zPr zClP z0 (fX19_askings_86 N K2 n y0 y1 y2 y3 y4 z) := by
  intro n
  induction n with
  | zero => intro y0 y1 y2 y3 y4 z h; exact zp_n
  | succ n ih => intro y0 y1 y2 y3 y4 z h; exact pX19_askings_86b hK2 (fun _ _ _ _ _ _ h => ih _ _ _ _ _ _ h) h
theorem pX19_askings_54b {z0 z : St} {N : Nat} {K2 : Nat → Nat → Int32 → St → Option (Int32 × St)} {K54 : Nat → Nat → Int32 → Int32 → Int32 → Int32 → St → Option (Int32 × St)} {x0 : Nat} {x1 : Nat} {x2 : Int32} {x3 : Int32} {x5 : Int32} {x6 : Int32} (hK2 : ∀ a0 a1 a2 a3, zEq zClP z0 a3 → zPr zClP z0 (K2 a0 a1 a2 a3)) (hK54 : ∀ a0 a1 a2 a3 a4 a5 a6, zEq zClP z0 a6 → zPr zClP z0 (K54 a0 a1 a2 a3 a4 a5 a6)) (h : zEq zClP z0 z) : zPr zClP z0 (fX19_askings_54b N K2 K54 x0 x1 x2 x3 x5 x6 z) := by
  unfold fX19_askings_54b
  exact zp_i (pX19_askings_86 hK2 _ _ _ _ _ _ _ h) (zp_k (zp_lA h rfl (fun z3 h1 => zp_l (fun v4 => zp_c (pX19_firstWaiting  h1) (fun r5 z6 h2 => hK54 _ _ _ _ _ _ _ h2)))))
theorem pX19_askings_54 {z0 : St} {N : Nat} {K2 : Nat → Nat → Int32 → St → Option (Int32 × St)} (hK2 : ∀ a0 a1 a2 a3, zEq zClP z0 a3 → zPr zClP z0 (K2 a0 a1 a2 a3)) : ∀ (n : Nat) (y0 : Nat) (y1 : Nat) (y2 : Int32) (y3 : Int32) (y4 : Int32) (y5 : Int32) (z : St), zEq zClP z0 z → zPr zClP z0 (fX19_askings_54 N K2 n y0 y1 y2 y3 y4 y5 z) := by
  intro n
  induction n with
  | zero => intro y0 y1 y2 y3 y4 y5 z h; exact zp_n
  | succ n ih => intro y0 y1 y2 y3 y4 y5 z h; exact pX19_askings_54b hK2 (fun _ _ _ _ _ _ _ h => ih _ _ _ _ _ _ _ h) h
theorem pX19_askings_147 {z0 z : St} {N : Nat} {K2 : Nat → Nat → Int32 → St → Option (Int32 × St)} {x0 : Nat} {x1 : Nat} {x2 : Int32} (hK2 : ∀ a0 a1 a2 a3, zEq zClP z0 a3 → zPr zClP z0 (K2 a0 a1 a2 a3)) (h : zEq zClP z0 z) : zPr zClP z0 (fX19_askings_147 N K2 x0 x1 x2 z) := by
  unfold fX19_askings_147
  exact zp_l (fun v1 => pX19_askings_150 hK2 h)
theorem pX19_askings_141 {z0 z : St} {N : Nat} {K2 : Nat → Nat → Int32 → St → Option (Int32 × St)} {x0 : Nat} {x1 : Nat} {x2 : Int32} {x3 : Int32} (hK2 : ∀ a0 a1 a2 a3, zEq zClP z0 a3 → zPr zClP z0 (K2 a0 a1 a2 a3)) (h : zEq zClP z0 z) : zPr zClP z0 (fX19_askings_141 N K2 x0 x1 x2 x3 z) := by
  unfold fX19_askings_141
  exact zp_c (pX19_ask  h) (fun _ z2 h1 => pX19_askings_147 hK2 h1)
theorem pX19_askings_2b {z0 z : St} {N : Nat} {K2 : Nat → Nat → Int32 → St → Option (Int32 × St)} {x0 : Nat} {x1 : Nat} {x2 : Int32} (hK2 : ∀ a0 a1 a2 a3, zEq zClP z0 a3 → zPr zClP z0 (K2 a0 a1 a2 a3)) (h : zEq zClP z0 z) : zPr zClP z0 (fX19_askings_2b N K2 x0 x1 x2 z) := by
  unfold fX19_askings_2b
  exact zp_i (zp_s h) (zp_k (zp_l (fun v3 => zp_k (zp_l (fun v5 => zp_i (zp_i (pX19_askings_141 hK2 h) (zp_i (pX19_askings_147 hK2 h) (pX19_askings_141 hK2 h))) (zp_c (pX18_endAsking  h) (fun _ z10 h1 => zp_c (pX19_firstWaiting  h1) (fun r13 z14 h2 => pX19_askings_54 hK2 _ _ _ _ _ _ _ _ h2))))))))
theorem pX19_askings_2 {z0 : St} {N : Nat} : ∀ (n : Nat) (y0 : Nat) (y1 : Nat) (y2 : Int32) (z : St), zEq zClP z0 z → zPr zClP z0 (fX19_askings_2 N n y0 y1 y2 z) := by
  intro n
  induction n with
  | zero => intro y0 y1 y2 z h; exact zp_n
  | succ n ih => intro y0 y1 y2 z h; exact pX19_askings_2b  (fun _ _ _ _ h => ih _ _ _ _ h) h
theorem pX19_askings {z0 z : St} {N : Nat} {x0 : Nat} {x1 : Nat} (h : zEq zClP z0 z) : zPr zClP z0 (fX19_askings N x0 x1 z) := by
  unfold fX19_askings
  exact pX19_askings_2  _ _ _ _ _ h
theorem pX19_forward {z0 z : St} {N : Nat} {x0 : Nat} {x1 : Nat} {x2 : Int32} (h : zEq zClP z0 z) : zPr zClP z0 (fX19_forward N x0 x1 x2 z) := by
  unfold fX19_forward
  exact zp_c (pX19_of  h) (fun r1 z2 h1 => zp_c (pX19_set  h1) (fun _ z6 h2 => zp_c (pX19_of  h2) (fun r9 z10 h3 => zp_i (zp_c (pX19_routerSends  h3) (fun _ z15 h4 => zp_s h4)) (zp_c (pX19_comeBack  h3) (fun _ z19 h5 => zp_s h5)))))
theorem pX19_endPieces_19b {z0 z : St} {N : Nat} {K19 : Nat → Option Nat → Int32 → St → Option (Int32 × St)} {x0 : Nat} {x2 : Option Nat} {x3 : Int32} (hK19 : ∀ a0 a1 a2 a3, zEq zClP z0 a3 → zPr zClP z0 (K19 a0 a1 a2 a3)) (h : zEq zClP z0 z) : zPr zClP z0 (fX19_endPieces_19b N K19 x0 x2 x3 z) := by
  unfold fX19_endPieces_19b
  exact zp_i (zp_k (zp_lQ h rfl (fun z3 h1 => zp_s h1))) (zp_k (zp_l (fun y5 => zp_k (zp_lQ h rfl (fun z7 h2 => zp_l (fun v8 => hK19 _ _ _ _ h2))))))
theorem pX19_endPieces_19 {z0 : St} {N : Nat} : ∀ (n : Nat) (y0 : Nat) (y1 : Option Nat) (y2 : Int32) (z : St), zEq zClP z0 z → zPr zClP z0 (fX19_endPieces_19 N n y0 y1 y2 z) := by
  intro n
  induction n with
  | zero => intro y0 y1 y2 z h; exact zp_n
  | succ n ih => intro y0 y1 y2 z h; exact pX19_endPieces_19b  (fun _ _ _ _ h => ih _ _ _ _ h) h
theorem pX19_endPieces {z0 z : St} {N : Nat} {x0 : Nat} {x1 : Int32} (h : zEq zClP z0 z) : zPr zClP z0 (fX19_endPieces N x0 x1 z) := by
  unfold fX19_endPieces
  exact zp_k (zp_l (fun y2 => zp_lI h rfl (fun z3 h1 => pX19_endPieces_19  _ _ _ _ _ h1)))
theorem pX19_neighbour_43 {z0 z : St} {N : Nat} {K2 : Nat → Int32 → Int32 → Int32 → St → Option (Option Nat × St)} {x0 : Nat} {x1 : Int32} {x2 : Int32} {x3 : Int32} (hK2 : ∀ a0 a1 a2 a3 a4, zEq zClP z0 a4 → zPr zClP z0 (K2 a0 a1 a2 a3 a4)) (h : zEq zClP z0 z) : zPr zClP z0 (fX19_neighbour_43 N K2 x0 x1 x2 x3 z) := by
  unfold fX19_neighbour_43
  exact zp_l (fun v1 => hK2 _ _ _ _ _ h)
theorem pX19_neighbour_2b {z0 z : St} {N : Nat} {K2 : Nat → Int32 → Int32 → Int32 → St → Option (Option Nat × St)} {x0 : Nat} {x1 : Int32} {x2 : Int32} {x3 : Int32} (hK2 : ∀ a0 a1 a2 a3 a4, zEq zClP z0 a4 → zPr zClP z0 (K2 a0 a1 a2 a3 a4)) (h : zEq zClP z0 z) : zPr zClP z0 (fX19_neighbour_2b N K2 x0 x1 x2 x3 z) := by
  unfold fX19_neighbour_2b
  exact zp_i (zp_s h) (zp_k (zp_l (fun y3 => zp_d (fun a4 => zp_i (pX19_neighbour_43 hK2 h) (zp_k (zp_l (fun y7 => zp_d (fun a8 => zp_i (pX19_neighbour_43 hK2 h) (zp_k (zp_l (fun y11 => zp_s h)))))))))))
theorem pX19_neighbour_2 {z0 : St} {N : Nat} : ∀ (n : Nat) (y0 : Nat) (y1 : Int32) (y2 : Int32) (y3 : Int32) (z : St), zEq zClP z0 z → zPr zClP z0 (fX19_neighbour_2 N n y0 y1 y2 y3 z) := by
  intro n
  induction n with
  | zero => intro y0 y1 y2 y3 z h; exact zp_n
  | succ n ih => intro y0 y1 y2 y3 z h; exact pX19_neighbour_2b  (fun _ _ _ _ _ h => ih _ _ _ _ _ h) h
theorem pX19_neighbour {z0 z : St} {N : Nat} {x0 : Nat} {x1 : Int32} {x2 : Int32} (h : zEq zClP z0 z) : zPr zClP z0 (fX19_neighbour N x0 x1 x2 z) := by
  unfold fX19_neighbour
  exact pX19_neighbour_2  _ _ _ _ _ _ h
theorem pX19_friend {z0 z : St} {N : Nat} {x0 : Nat} {x1 : Int32} {x2 : Int32} (h : zEq zClP z0 z) : zPr zClP z0 (fX19_friend N x0 x1 x2 z) := by
  unfold fX19_friend
  exact zp_c (pX19_neighbour  h) (fun r1 z2 h1 => zp_o (zp_s h1) (fun a6 => zp_i (zp_s h1) (zp_s h1)))
theorem pX19_isDue {z0 z : St} {N : Nat} {x0 : Nat} {x1 : Nat} {x2 : Int32} (h : zEq zClP z0 z) : zPr zClP z0 (fX19_isDue N x0 x1 x2 z) := by
  unfold fX19_isDue
  exact zp_k (zp_lA h rfl (fun z2 h1 => zp_k (zp_lA h1 rfl (fun z4 h2 => zp_s h2))))
theorem pX19_take_97 {z0 z : St} {N : Nat} {K57 : Nat → Nat → Option Nat → Int32 → Int32 → St → Option (Int32 × St)} {x0 : Nat} {x1 : Nat} {x3 : Option Nat} {x4 : Int32} {x5 : Int32} (hK57 : ∀ a0 a1 a2 a3 a4 a5, zEq zClP z0 a5 → zPr zClP z0 (K57 a0 a1 a2 a3 a4 a5)) (h : zEq zClP z0 z) : zPr zClP z0 (fX19_take_97 N K57 x0 x1 x3 x4 x5 z) := by
  unfold fX19_take_97
  exact zp_l (fun v1 => hK57 _ _ _ _ _ _ h)
theorem pX19_take_57b {z0 z : St} {N : Nat} {K57 : Nat → Nat → Option Nat → Int32 → Int32 → St → Option (Int32 × St)} {x0 : Nat} {x1 : Nat} {x3 : Option Nat} {x4 : Int32} {x5 : Int32} (hK57 : ∀ a0 a1 a2 a3 a4 a5, zEq zClP z0 a5 → zPr zClP z0 (K57 a0 a1 a2 a3 a4 a5)) (h : zEq zClP z0 z) : zPr zClP z0 (fX19_take_57b N K57 x0 x1 x3 x4 x5 z) := by
  unfold fX19_take_57b
  exact zp_i (zp_s h) (zp_k (zp_l (fun y3 => zp_i (pX19_take_97 hK57 h) (zp_d (fun a5 => zp_i (pX19_take_97 hK57 h) (zp_c (pX19_isDue  h) (fun _ z8 h1 => pX19_take_97 hK57 h1)))))))
theorem pX19_take_57 {z0 : St} {N : Nat} : ∀ (n : Nat) (y0 : Nat) (y1 : Nat) (y2 : Option Nat) (y3 : Int32) (y4 : Int32) (z : St), zEq zClP z0 z → zPr zClP z0 (fX19_take_57 N n y0 y1 y2 y3 y4 z) := by
  intro n
  induction n with
  | zero => intro y0 y1 y2 y3 y4 z h; exact zp_n
  | succ n ih => intro y0 y1 y2 y3 y4 z h; exact pX19_take_57b  (fun _ _ _ _ _ _ h => ih _ _ _ _ _ _ h) h
theorem pX19_take_30 {z0 z : St} {N : Nat} {x0 : Nat} {x1 : Nat} {x2 : Int32} {x3 : Option Nat} {x4 : Int32} (h : zEq zClP z0 z) : zPr zClP z0 (fX19_take_30 N x0 x1 x2 x3 x4 z) := by
  unfold fX19_take_30
  exact zp_k (zp_lA h rfl (fun z2 h1 => zp_k (zp_lA h1 rfl (fun z4 h2 => zp_lI h2 rfl (fun z5 h3 => pX19_take_57  _ _ _ _ _ _ _ h3)))))
theorem pX19_take {z0 z : St} {N : Nat} {x0 : Nat} {x1 : Nat} {x2 : Int32} {x3 : Option Nat} (h : zEq zClP z0 z) : zPr zClP z0 (fX19_take N x0 x1 x2 x3 z) := by
  unfold fX19_take
  exact zp_c (pX19_ad  h) (fun r1 z2 h1 => zp_k (zp_i (pX19_take_30  h1) (zp_k (zp_c (pX19_dropAdvert  h1) (fun _ z9 h2 => pX19_take_30  h2)))))
theorem pX19_advertCame_217 {z0 z : St} {N : Nat} {x1 : Nat} {x5 : Int32} {x6 : Int32} (h : zEq zClP z0 z) : zPr zClP z0 (fX19_advertCame_217 N x1 x5 x6 z) := by
  unfold fX19_advertCame_217
  exact zp_i (zp_s h) (zp_i (zp_s h) (zp_lI h rfl (fun z3 h1 => zp_s h1)))
theorem pX19_advertCame_179 {z0 z : St} {N : Nat} {x0 : Nat} {x1 : Nat} {x3 : Nat} {x4 : Int32} {x5 : Int32} {x6 : Int32} {x7 : Int32} (h : zEq zClP z0 z) : zPr zClP z0 (fX19_advertCame_179 N x0 x1 x3 x4 x5 x6 x7 z) := by
  unfold fX19_advertCame_179
  exact zp_i (pX19_advertCame_217  h) (zp_i (pX19_advertCame_217  h) (zp_k (zp_k (zp_lA h rfl (fun z5 h1 => zp_c (pX19_take  h1) (fun _ z7 h2 => zp_s h2))))))
theorem pX19_advertCame_152 {z0 z : St} {N : Nat} {x0 : Nat} {x1 : Nat} {x3 : Nat} {x4 : Int32} {x5 : Int32} {x6 : Int32} {s0 : Int32} (h : zEq zClP z0 z) : zPr zClP z0 (fX19_advertCame_152 N x0 x1 x3 x4 x5 x6 s0 z) := by
  unfold fX19_advertCame_152
  exact zp_i (zp_c (pX19_isDue  h) (fun _ z3 h1 => pX19_advertCame_179  h1)) (zp_k (zp_lA h rfl (fun z7 h2 => pX19_advertCame_179  h2)))
theorem pX19_advertCame_125 {z0 z : St} {N : Nat} {x0 : Nat} {x1 : Nat} {x3 : Nat} {x4 : Int32} {x5 : Int32} {x6 : Int32} (h : zEq zClP z0 z) : zPr zClP z0 (fX19_advertCame_125 N x0 x1 x3 x4 x5 x6 z) := by
  unfold fX19_advertCame_125
  exact zp_k (zp_i (zp_k (zp_c (pX19_ad  h) (fun r4 z5 h1 => pX19_advertCame_152  h1))) (pX19_advertCame_152  h))
theorem pX19_advertCame {z0 z : St} {N : Nat} {x0 : Nat} {x1 : Nat} {x2 : Int32} (h : zEq zClP z0 z) : zPr zClP z0 (fX19_advertCame N x0 x1 x2 z) := by
  unfold fX19_advertCame
  exact zp_c (pX19_of  h) (fun r1 z2 h1 => zp_c (pX19_of  h1) (fun r5 z6 h2 => zp_c (pX19_friend  h2) (fun r9 z10 h3 => zp_o (zp_s h3) (fun a14 => zp_c (pX19_of  h3) (fun r15 z16 h4 => zp_c (pX19_ad  h4) (fun r19 z20 h5 => zp_c (pX19_ad  h5) (fun r23 z24 h6 => zp_i (zp_c (pX19_stir  h6) (fun _ z29 h7 => pX19_advertCame_125  h7)) (zp_c (pX19_of  h6) (fun r32 z33 h8 => zp_k (zp_lA h8 rfl (fun z37 h9 => zp_c (pX19_of  h9) (fun r38 z39 h10 => zp_k (zp_lA h10 rfl (fun z43 h11 => zp_k (zp_lA h11 rfl (fun z45 h12 => zp_lI h12 rfl (fun z46 h13 => pX19_advertCame_125  h13)))))))))))))))))
theorem pX19_newNeighbour_70 {z0 z : St} {N : Nat} {K17 : Nat → Int32 → Int32 → Option Nat → Int32 → St → Option (Option Nat × St)} {x1 : Nat} {x2 : Int32} {x3 : Int32} {x4 : Option Nat} {x5 : Int32} (hK17 : ∀ a0 a1 a2 a3 a4 a5, zEq zClP z0 a5 → zPr zClP z0 (K17 a0 a1 a2 a3 a4 a5)) (h : zEq zClP z0 z) : zPr zClP z0 (fX19_newNeighbour_70 N K17 x1 x2 x3 x4 x5 z) := by
  unfold fX19_newNeighbour_70
  exact zp_k (zp_l (fun y2 => zp_k (zp_lQ h rfl (fun z4 h1 => zp_l (fun v5 => hK17 _ _ _ _ _ _ h1)))))
theorem pX19_newNeighbour_132b {z0 z : St} {N : Nat} {K132 : Nat → Int32 → St → Option (Option Nat × St)} {x4 : Nat} {x6 : Int32} (hK132 : ∀ a0 a1 a2, zEq zClP z0 a2 → zPr zClP z0 (K132 a0 a1 a2)) (h : zEq zClP z0 z) : zPr zClP z0 (fX19_newNeighbour_132b N K132 x4 x6 z) := by
  unfold fX19_newNeighbour_132b
  exact zp_i (zp_s h) (zp_k (zp_lA h rfl (fun z3 h1 => zp_k (zp_lA h1 rfl (fun z5 h2 => zp_l (fun v6 => hK132 _ _ _ h2))))))
theorem pX19_newNeighbour_132 {z0 : St} {N : Nat} : ∀ (n : Nat) (y0 : Nat) (y1 : Int32) (z : St), zEq zClP z0 z → zPr zClP z0 (fX19_newNeighbour_132 N n y0 y1 z) := by
  intro n
  induction n with
  | zero => intro y0 y1 z h; exact zp_n
  | succ n ih => intro y0 y1 z h; exact pX19_newNeighbour_132b  (fun _ _ _ h => ih _ _ _ h) h
theorem pX19_newNeighbour_92 {z0 z : St} {N : Nat} {x1 : Nat} {x2 : Int32} {x3 : Int32} {x4 : Option Nat} {x5 : Int32} (h : zEq zClP z0 z) : zPr zClP z0 (fX19_newNeighbour_92 N x1 x2 x3 x4 x5 z) := by
  unfold fX19_newNeighbour_92
  exact zp_k (zp_lQ h rfl (fun z2 h1 => zp_lI h1 rfl (fun z3 h2 => zp_d (fun a4 => zp_lI h2 rfl (fun z5 h3 => zp_lI h3 rfl (fun z6 h4 => zp_lI h4 rfl (fun z7 h5 => pX19_newNeighbour_132  _ _ _ _ h5)))))))
theorem pX19_newNeighbour_17b {z0 z : St} {N : Nat} {K17 : Nat → Int32 → Int32 → Option Nat → Int32 → St → Option (Option Nat × St)} {x1 : Nat} {x2 : Int32} {x3 : Int32} {x4 : Option Nat} {x5 : Int32} (hK17 : ∀ a0 a1 a2 a3 a4 a5, zEq zClP z0 a5 → zPr zClP z0 (K17 a0 a1 a2 a3 a4 a5)) (h : zEq zClP z0 z) : zPr zClP z0 (fX19_newNeighbour_17b N K17 x1 x2 x3 x4 x5 z) := by
  unfold fX19_newNeighbour_17b
  exact zp_i (pX19_newNeighbour_92  h) (zp_k (zp_l (fun y3 => zp_d (fun a4 => zp_i (pX19_newNeighbour_70 hK17 h) (zp_k (zp_l (fun y7 => zp_d (fun a8 => zp_i (pX19_newNeighbour_92  h) (zp_k (zp_l (fun y11 => zp_d (fun a12 => zp_i (pX19_newNeighbour_92  h) (pX19_newNeighbour_70 hK17 h)))))))))))))
theorem pX19_newNeighbour_17 {z0 : St} {N : Nat} : ∀ (n : Nat) (y0 : Nat) (y1 : Int32) (y2 : Int32) (y3 : Option Nat) (y4 : Int32) (z : St), zEq zClP z0 z → zPr zClP z0 (fX19_newNeighbour_17 N n y0 y1 y2 y3 y4 z) := by
  intro n
  induction n with
  | zero => intro y0 y1 y2 y3 y4 z h; exact zp_n
  | succ n ih => intro y0 y1 y2 y3 y4 z h; exact pX19_newNeighbour_17b  (fun _ _ _ _ _ _ h => ih _ _ _ _ _ _ h) h
theorem pX19_newNeighbour {z0 z : St} {N : Nat} {x0 : Nat} {x1 : Nat} {x2 : Int32} {x3 : Int32} (h : zEq zClP z0 z) : zPr zClP z0 (fX19_newNeighbour N x0 x1 x2 x3 z) := by
  unfold fX19_newNeighbour
  exact zp_k (zp_l (fun y2 => zp_l (fun v3 => pX19_newNeighbour_17  _ _ _ _ _ _ _ h)))
theorem pX19_greeted_165 {z0 z : St} {N : Nat} {K117 : Nat → Nat → Nat → Int32 → Int32 → St → Option (Int32 × St)} {x0 : Nat} {x1 : Nat} {x5 : Nat} {x6 : Int32} {x7 : Int32} {s0 : Nat} {s1 : Int32} {s2 : Int32} (hK117 : ∀ a0 a1 a2 a3 a4 a5, zEq zClP z0 a5 → zPr zClP z0 (K117 a0 a1 a2 a3 a4 a5)) (h : zEq zClP z0 z) : zPr zClP z0 (fX19_greeted_165 N K117 x0 x1 x5 x6 x7 s0 s1 s2 z) := by
  unfold fX19_greeted_165
  exact zp_k (zp_lA h rfl (fun z2 h1 => zp_k (zp_lA h1 rfl (fun z4 h2 => zp_l (fun v5 => hK117 _ _ _ _ _ _ h2)))))
theorem pX19_greeted_164 {z0 z : St} {N : Nat} {K117 : Nat → Nat → Nat → Int32 → Int32 → St → Option (Int32 × St)} {x0 : Nat} {x1 : Nat} {x5 : Nat} {x6 : Int32} {x7 : Int32} {s0 : Nat} {s1 : Int32} (hK117 : ∀ a0 a1 a2 a3 a4 a5, zEq zClP z0 a5 → zPr zClP z0 (K117 a0 a1 a2 a3 a4 a5)) (h : zEq zClP z0 z) : zPr zClP z0 (fX19_greeted_164 N K117 x0 x1 x5 x6 x7 s0 s1 z) := by
  unfold fX19_greeted_164
  exact pX19_greeted_165 hK117 h
theorem pX19_greeted_117b {z0 z : St} {N : Nat} {K117 : Nat → Nat → Nat → Int32 → Int32 → St → Option (Int32 × St)} {x0 : Nat} {x1 : Nat} {x5 : Nat} {x6 : Int32} {x7 : Int32} (hK117 : ∀ a0 a1 a2 a3 a4 a5, zEq zClP z0 a5 → zPr zClP z0 (K117 a0 a1 a2 a3 a4 a5)) (h : zEq zClP z0 z) : zPr zClP z0 (fX19_greeted_117b N K117 x0 x1 x5 x6 x7 z) := by
  unfold fX19_greeted_117b
  exact zp_i (zp_s h) (zp_i (zp_s h) (zp_i (pX19_greeted_164 hK117 h) (zp_k (zp_i (pX19_greeted_164 hK117 h) (pX19_greeted_165 hK117 h)))))
theorem pX19_greeted_117 {z0 : St} {N : Nat} : ∀ (n : Nat) (y0 : Nat) (y1 : Nat) (y2 : Nat) (y3 : Int32) (y4 : Int32) (z : St), zEq zClP z0 z → zPr zClP z0 (fX19_greeted_117 N n y0 y1 y2 y3 y4 z) := by
  intro n
  induction n with
  | zero => intro y0 y1 y2 y3 y4 z h; exact zp_n
  | succ n ih => intro y0 y1 y2 y3 y4 z h; exact pX19_greeted_117b  (fun _ _ _ _ _ _ h => ih _ _ _ _ _ _ h) h
theorem pX19_greeted_111 {z0 z : St} {N : Nat} {x0 : Nat} {x1 : Nat} {x5 : Nat} {x6 : Int32} {s0 : Nat} {s1 : Int32} (h : zEq zClP z0 z) : zPr zClP z0 (fX19_greeted_111 N x0 x1 x5 x6 s0 s1 z) := by
  unfold fX19_greeted_111
  exact zp_q (zp_lI h rfl (fun z1 h1 => pX19_greeted_117  _ _ _ _ _ _ _ h1))
theorem pX19_greeted_106 {z0 z : St} {N : Nat} {x0 : Nat} {x1 : Nat} {x5 : Nat} {x6 : Int32} {s0 : Nat} (h : zEq zClP z0 z) : zPr zClP z0 (fX19_greeted_106 N x0 x1 x5 x6 s0 z) := by
  unfold fX19_greeted_106
  exact pX19_greeted_111  h
theorem pX19_greeted_85 {z0 z : St} {N : Nat} {x0 : Nat} {x1 : Nat} {x5 : Nat} {x6 : Int32} {s0 : Nat} {s1 : Int32} (h : zEq zClP z0 z) : zPr zClP z0 (fX19_greeted_85 N x0 x1 x5 x6 s0 s1 z) := by
  unfold fX19_greeted_85
  exact zp_q (zp_lI h rfl (fun z1 h1 => zp_i (pX19_greeted_106  h1) (zp_i (pX19_greeted_111  h1) (pX19_greeted_106  h1))))
theorem pX19_greeted_49 {z0 z : St} {N : Nat} {x0 : Nat} {x1 : Nat} {x4 : Int32} {x5 : Option Nat} (h : zEq zClP z0 z) : zPr zClP z0 (fX19_greeted_49 N x0 x1 x4 x5 z) := by
  unfold fX19_greeted_49
  exact zp_d (fun a1 => zp_l (fun v2 => zp_lI h rfl (fun z3 h1 => zp_i (pX19_greeted_85  h1) (pX19_greeted_85  h1))))
theorem pX19_greeted {z0 z : St} {N : Nat} {x0 : Nat} {x1 : Nat} {x2 : Int32} {x3 : Int32} {x4 : Int32} (h : zEq zClP z0 z) : zPr zClP z0 (fX19_greeted N x0 x1 x2 x3 x4 z) := by
  unfold fX19_greeted
  exact zp_k (zp_l (fun y2 => zp_d (fun a3 => zp_i (zp_c (pX19_neighbour  h) (fun r5 z6 h1 => zp_o (zp_i (zp_c (pX19_newNeighbour  h1) (fun r12 z13 h2 => pX19_greeted_49  h2)) (zp_c (pX19_stir  h1) (fun _ z17 h3 => zp_s h3))) (fun a10 => pX19_greeted_49  h1))) (zp_s h))))
theorem pX19_answer {z0 z : St} {N : Nat} {x0 : Nat} {x1 : Nat} {x2 : Int32} (h : zEq zClP z0 z) : zPr zClP z0 (fX19_answer N x0 x1 x2 z) := by
  unfold fX19_answer
  exact zp_c (pX19_has  h) (fun r1 z2 h1 => zp_i (zp_s h1) (zp_c (pX19_has  h1) (fun r6 z7 h2 => zp_i (zp_c (pX19_seg  h2) (fun r11 z12 h3 => zp_c (pX19_sizeOf  h3) (fun r15 z16 h4 => zp_c (pX14_resetWith  h4) (fun _ z20 h5 => zp_s h5)))) (zp_c (pX19_seg  h2) (fun r23 z24 h6 => zp_c (pX14_resetWith  h6) (fun _ z28 h7 => zp_s h7))))))
theorem pX19_takeOpen_113 {z0 z : St} {N : Nat} {x0 : Nat} {x1 : Nat} {x2 : Int32} {s0 : Nat} {s1 : Int32} (h : zEq zClP z0 z) : zPr zClP z0 (fX19_takeOpen_113 N x0 x1 x2 s0 s1 z) := by
  unfold fX19_takeOpen_113
  exact zp_lI h rfl (fun z1 h1 => zp_c (pX19_dropBook  h1) (fun _ z3 h2 => zp_lI h2 rfl (fun z6 h3 => zp_lI h3 rfl (fun z7 h4 => zp_c (pX19_seg  h4) (fun r8 z9 h5 => zp_i (zp_s h5) (zp_k (zp_i (zp_s h5) (zp_k (zp_c (pX19_seg  h5) (fun r16 z17 h6 => zp_i (zp_s h6) (zp_lI h6 rfl (fun z21 h7 => zp_k (zp_k (zp_lA h7 rfl (fun z24 h8 => zp_s h8)))))))))))))))
theorem pX19_takeOpen_66 {z0 z : St} {N : Nat} {x0 : Nat} {x1 : Nat} {x2 : Int32} {s0 : Nat} {s1 : Int32} (h : zEq zClP z0 z) : zPr zClP z0 (fX19_takeOpen_66 N x0 x1 x2 s0 s1 z) := by
  unfold fX19_takeOpen_66
  exact zp_lI h rfl (fun z1 h1 => zp_c (pX19_seg  h1) (fun r2 z3 h2 => zp_lI h2 rfl (fun z6 h3 => zp_c (pX19_seg  h3) (fun r7 z8 h4 => zp_lI h4 rfl (fun z11 h5 => zp_c (pX19_has  h5) (fun r12 z13 h6 => zp_i (pX19_takeOpen_113  h6) (zp_c (pX19_seg  h6) (fun r17 z18 h7 => pX19_takeOpen_113  h7))))))))
theorem pX19_takeOpen_48 {z0 z : St} {N : Nat} {x0 : Nat} {x1 : Nat} {x2 : Int32} {s0 : Int32} (h : zEq zClP z0 z) : zPr zClP z0 (fX19_takeOpen_48 N x0 x1 x2 s0 z) := by
  unfold fX19_takeOpen_48
  exact zp_i (pX19_takeOpen_66  h) (pX19_takeOpen_66  h)
theorem pX19_takeOpen {z0 z : St} {N : Nat} {x0 : Nat} {x1 : Nat} {x2 : Int32} (h : zEq zClP z0 z) : zPr zClP z0 (fX19_takeOpen N x0 x1 x2 z) := by
  unfold fX19_takeOpen
  exact zp_lI h rfl (fun z1 h1 => zp_c (pX19_seg  h1) (fun r2 z3 h2 => zp_lI h2 rfl (fun z6 h3 => zp_lI h3 rfl (fun z7 h4 => zp_c (pX19_seg  h4) (fun r8 z9 h5 => zp_i (zp_c (pX19_seg  h5) (fun r13 z14 h6 => pX19_takeOpen_48  h6)) (pX19_takeOpen_48  h5))))))
theorem pX19_arriveAsking_32 {z0 z : St} {N : Nat} {x0 : Nat} {x1 : Nat} {x2 : Int32} (h : zEq zClP z0 z) : zPr zClP z0 (fX19_arriveAsking_32 N x0 x1 x2 z) := by
  unfold fX19_arriveAsking_32
  exact zp_c (pX19_has  h) (fun r1 z2 h1 => zp_i (zp_c (pX19_has  h1) (fun r6 z7 h2 => zp_i (zp_s h2) (zp_c (pX19_takeOpen  h2) (fun _ z12 h3 => zp_c (pX19_has  h3) (fun r15 z16 h4 => zp_i (zp_lI h4 rfl (fun z20 h5 => zp_lI h5 rfl (fun z21 h6 => zp_s h6))) (zp_lI h4 rfl (fun z22 h7 => zp_c (pX19_seg  h7) (fun r23 z24 h8 => zp_c (pX14_thankedFor  h8) (fun _ z28 h9 => zp_lI h9 rfl (fun z31 h10 => zp_lI h10 rfl (fun z32 h11 => zp_s h11))))))))))) (zp_c (pX19_has  h1) (fun r33 z34 h12 => zp_i (zp_s h12) (zp_c (pX14_become  h12) (fun _ z39 h13 => zp_s h13)))))
theorem pX19_arriveAsking {z0 z : St} {N : Nat} {x0 : Nat} {x1 : Nat} {x2 : Int32} (h : zEq zClP z0 z) : zPr zClP z0 (fX19_arriveAsking N x0 x1 x2 z) := by
  unfold fX19_arriveAsking
  exact zp_c (pX19_has  h) (fun r1 z2 h1 => zp_i (pX19_arriveAsking_32  h1) (zp_c (pX19_seg  h1) (fun r6 z7 h2 => zp_i (pX19_arriveAsking_32  h2) (zp_c (pX19_answer  h2) (fun _ z12 h3 => zp_s h3)))))
theorem pX19_arriveBytes_123 {z0 z : St} {N : Nat} {K50 : Nat → Nat → Int32 → Int32 → Int32 → Int32 → Int32 → St → Option (Int32 × St)} {x0 : Nat} {x1 : Nat} {x2 : Int32} {x3 : Int32} {x4 : Int32} {x5 : Int32} {x6 : Int32} (hK50 : ∀ a0 a1 a2 a3 a4 a5 a6 a7, zEq zClP z0 a7 → zPr zClP z0 (K50 a0 a1 a2 a3 a4 a5 a6 a7)) (h : zEq zClP z0 z) : zPr zClP z0 (fX19_arriveBytes_123 N K50 x0 x1 x2 x3 x4 x5 x6 z) := by
  unfold fX19_arriveBytes_123
  exact zp_l (fun v1 => hK50 _ _ _ _ _ _ _ _ h)
theorem pX19_arriveBytes_334 {z0 z : St} {N : Nat} {x1 : Nat} (h : zEq zClP z0 z) : zPr zClP z0 (fX19_arriveBytes_334 N x1 z) := by
  unfold fX19_arriveBytes_334
  exact zp_lI h rfl (fun z1 h1 => zp_s h1)
theorem pX19_arriveBytes_321 {z0 z : St} {N : Nat} {x0 : Nat} {x1 : Nat} {x2 : Int32} {x3 : Int32} (h : zEq zClP z0 z) : zPr zClP z0 (fX19_arriveBytes_321 N x0 x1 x2 x3 z) := by
  unfold fX19_arriveBytes_321
  exact zp_i (pX19_arriveBytes_334  h) (zp_c (pX19_has  h) (fun r2 z3 h1 => zp_i (zp_s h1) (pX19_arriveBytes_334  h1)))
theorem pX19_arriveBytes_314 {z0 z : St} {N : Nat} {x0 : Nat} {x1 : Nat} {x2 : Int32} {x3 : Int32} {s0 : Nat} {s1 : Int32} (h : zEq zClP z0 z) : zPr zClP z0 (fX19_arriveBytes_314 N x0 x1 x2 x3 s0 s1 z) := by
  unfold fX19_arriveBytes_314
  exact zp_c (pX14_become  h) (fun _ z2 h1 => pX19_arriveBytes_321  h1)
theorem pX19_arriveBytes_252 {z0 z : St} {N : Nat} {x0 : Nat} {x1 : Nat} {x2 : Int32} {x3 : Int32} (h : zEq zClP z0 z) : zPr zClP z0 (fX19_arriveBytes_252 N x0 x1 x2 x3 z) := by
  unfold fX19_arriveBytes_252
  exact zp_i (pX19_arriveBytes_321  h) (zp_i (pX19_arriveBytes_321  h) (zp_lI h rfl (fun z3 h1 => zp_lI h1 rfl (fun z4 h2 => zp_i (zp_i (pX19_arriveBytes_314  h2) (pX19_arriveBytes_314  h2)) (pX19_arriveBytes_314  h2)))))
theorem pX19_arriveBytes_215 {z0 z : St} {N : Nat} {K181 : Nat → Nat → Int32 → Int32 → St → Option (Int32 × St)} {x0 : Nat} {x1 : Nat} {x2 : Int32} {x3 : Int32} (hK181 : ∀ a0 a1 a2 a3 a4, zEq zClP z0 a4 → zPr zClP z0 (K181 a0 a1 a2 a3 a4)) (h : zEq zClP z0 z) : zPr zClP z0 (fX19_arriveBytes_215 N K181 x0 x1 x2 x3 z) := by
  unfold fX19_arriveBytes_215
  exact zp_c (pX14_readable  h) (fun r1 z2 h1 => zp_i (pX19_arriveBytes_252  h1) (zp_k (zp_lA h1 rfl (fun z7 h2 => zp_lI h2 rfl (fun z8 h3 => hK181 _ _ _ _ _ h3)))))
theorem pX19_arriveBytes_181b {z0 z : St} {N : Nat} {K181 : Nat → Nat → Int32 → Int32 → St → Option (Int32 × St)} {x0 : Nat} {x1 : Nat} {x2 : Int32} {x3 : Int32} (hK181 : ∀ a0 a1 a2 a3 a4, zEq zClP z0 a4 → zPr zClP z0 (K181 a0 a1 a2 a3 a4)) (h : zEq zClP z0 z) : zPr zClP z0 (fX19_arriveBytes_181b N K181 x0 x1 x2 x3 z) := by
  unfold fX19_arriveBytes_181b
  exact zp_k (zp_i (pX19_arriveBytes_252  h) (zp_i (pX19_arriveBytes_215 hK181 h) (zp_i (pX19_arriveBytes_252  h) (pX19_arriveBytes_215 hK181 h))))
theorem pX19_arriveBytes_181 {z0 : St} {N : Nat} : ∀ (n : Nat) (y0 : Nat) (y1 : Nat) (y2 : Int32) (y3 : Int32) (z : St), zEq zClP z0 z → zPr zClP z0 (fX19_arriveBytes_181 N n y0 y1 y2 y3 z) := by
  intro n
  induction n with
  | zero => intro y0 y1 y2 y3 z h; exact zp_n
  | succ n ih => intro y0 y1 y2 y3 z h; exact pX19_arriveBytes_181b  (fun _ _ _ _ _ h => ih _ _ _ _ _ h) h
theorem pX19_arriveBytes_50b {z0 z : St} {N : Nat} {K50 : Nat → Nat → Int32 → Int32 → Int32 → Int32 → Int32 → St → Option (Int32 × St)} {x0 : Nat} {x1 : Nat} {x2 : Int32} {x3 : Int32} {x4 : Int32} {x5 : Int32} {x6 : Int32} (hK50 : ∀ a0 a1 a2 a3 a4 a5 a6 a7, zEq zClP z0 a7 → zPr zClP z0 (K50 a0 a1 a2 a3 a4 a5 a6 a7)) (h : zEq zClP z0 z) : zPr zClP z0 (fX19_arriveBytes_50b N K50 x0 x1 x2 x3 x4 x5 x6 z) := by
  unfold fX19_arriveBytes_50b
  exact zp_i (zp_l (fun v2 => zp_c (pX19_has  h) (fun r3 z4 h1 => zp_i (pX19_arriveBytes_181  _ _ _ _ _ _ h1) (zp_i (pX19_arriveBytes_181  _ _ _ _ _ _ h1) (zp_i (pX19_arriveBytes_181  _ _ _ _ _ _ h1) (zp_i (pX19_arriveBytes_181  _ _ _ _ _ _ h1) (zp_lI h1 rfl (fun z11 h2 => zp_lI h2 rfl (fun z12 h3 => pX19_arriveBytes_181  _ _ _ _ _ _ h3))))))))) (zp_l (fun v13 => zp_l (fun v14 => zp_i (pX19_arriveBytes_123 hK50 h) (zp_i (pX19_arriveBytes_123 hK50 h) (zp_k (zp_i (pX19_arriveBytes_123 hK50 h) (zp_k (zp_lA h rfl (fun z20 h4 => zp_c (pX19_byteOf  h4) (fun r21 z22 h5 => zp_k (zp_lA h5 rfl (fun z26 h6 => pX19_arriveBytes_123 hK50 h6))))))))))))
theorem pX19_arriveBytes_50 {z0 : St} {N : Nat} : ∀ (n : Nat) (y0 : Nat) (y1 : Nat) (y2 : Int32) (y3 : Int32) (y4 : Int32) (y5 : Int32) (y6 : Int32) (z : St), zEq zClP z0 z → zPr zClP z0 (fX19_arriveBytes_50 N n y0 y1 y2 y3 y4 y5 y6 z) := by
  intro n
  induction n with
  | zero => intro y0 y1 y2 y3 y4 y5 y6 z h; exact zp_n
  | succ n ih => intro y0 y1 y2 y3 y4 y5 y6 z h; exact pX19_arriveBytes_50b  (fun _ _ _ _ _ _ _ _ h => ih _ _ _ _ _ _ _ _ h) h
theorem pX19_arriveBytes_33 {z0 z : St} {N : Nat} {x0 : Nat} {x1 : Nat} {x2 : Int32} {x3 : Int32} (h : zEq zClP z0 z) : zPr zClP z0 (fX19_arriveBytes_33 N x0 x1 x2 x3 z) := by
  unfold fX19_arriveBytes_33
  exact zp_c (pX14_room  h) (fun r1 z2 h1 => zp_c (pX19_seg  h1) (fun r5 z6 h2 => pX19_arriveBytes_50  _ _ _ _ _ _ _ _ _ h2))
theorem pX19_arriveBytes {z0 z : St} {N : Nat} {x0 : Nat} {x1 : Nat} {x2 : Int32} (h : zEq zClP z0 z) : zPr zClP z0 (fX19_arriveBytes N x0 x1 x2 z) := by
  unfold fX19_arriveBytes
  exact zp_c (pX19_seg  h) (fun r1 z2 h1 => zp_i (pX19_arriveBytes_33  h1) (zp_i (pX19_arriveBytes_33  h1) (zp_i (pX19_arriveBytes_321  h1) (pX19_arriveBytes_33  h1))))
theorem pX19_arriveListening {z0 z : St} {N : Nat} {x0 : Nat} {x1 : Nat} {x2 : Int32} (h : zEq zClP z0 z) : zPr zClP z0 (fX19_arriveListening N x0 x1 x2 z) := by
  unfold fX19_arriveListening
  exact zp_c (pX19_has  h) (fun r1 z2 h1 => zp_i (zp_c (pX19_has  h1) (fun r6 z7 h2 => zp_i (zp_c (pX19_has  h2) (fun r11 z12 h3 => zp_i (zp_s h3) (zp_c (pX19_takeOpen  h3) (fun _ z17 h4 => zp_lI h4 rfl (fun z20 h5 => zp_lI h5 rfl (fun z21 h6 => zp_lI h6 rfl (fun z22 h7 => zp_s h7))))))) (zp_c (pX19_answer  h2) (fun _ z24 h8 => zp_s h8)))) (zp_s h1))
theorem pX19_arriveThanks_195 {z0 z : St} {N : Nat} {x0 : Nat} {x1 : Nat} (h : zEq zClP z0 z) : zPr zClP z0 (fX19_arriveThanks_195 N x0 x1 z) := by
  unfold fX19_arriveThanks_195
  exact zp_i (zp_s h) (zp_c (pX19_isBefore  h) (fun r2 z3 h1 => zp_i (zp_s h1) (zp_i (zp_i (zp_i (zp_s h1) (zp_c (pX14_become  h1) (fun _ z11 h2 => zp_s h2))) (zp_c (pX14_become  h1) (fun _ z15 h3 => zp_s h3))) (zp_c (pX14_become  h1) (fun _ z19 h4 => zp_s h4)))))
theorem pX19_arriveThanks_177 {z0 z : St} {N : Nat} {x0 : Nat} {x1 : Nat} {s0 : Nat} {s1 : Int32} (h : zEq zClP z0 z) : zPr zClP z0 (fX19_arriveThanks_177 N x0 x1 s0 s1 z) := by
  unfold fX19_arriveThanks_177
  exact zp_q (zp_lI h rfl (fun z1 h1 => pX19_arriveThanks_195  h1))
theorem pX19_arriveThanks_176 {z0 z : St} {N : Nat} {x0 : Nat} {x1 : Nat} {s0 : Nat} (h : zEq zClP z0 z) : zPr zClP z0 (fX19_arriveThanks_176 N x0 x1 s0 z) := by
  unfold fX19_arriveThanks_176
  exact pX19_arriveThanks_177  h
theorem pX19_arriveThanks_111 {z0 z : St} {N : Nat} {x0 : Nat} {x1 : Nat} {x2 : Int32} {x3 : Int32} {s0 : Int32} (h : zEq zClP z0 z) : zPr zClP z0 (fX19_arriveThanks_111 N x0 x1 x2 x3 s0 z) := by
  unfold fX19_arriveThanks_111
  exact zp_c (pX19_seg  h) (fun r1 z2 h1 => zp_lI h1 rfl (fun z5 h2 => zp_c (pX19_seg  h2) (fun r6 z7 h3 => zp_lI h3 rfl (fun z10 h4 => zp_lI h4 rfl (fun z11 h5 => zp_i (zp_i (pX19_arriveThanks_195  h5) (zp_lI h5 rfl (fun z14 h6 => pX19_arriveThanks_195  h6))) (zp_lI h5 rfl (fun z15 h7 => zp_lI h7 rfl (fun z16 h8 => zp_i (pX19_arriveThanks_176  h8) (zp_i (pX19_arriveThanks_176  h8) (pX19_arriveThanks_177  h8))))))))))
theorem pX19_arriveThanks_110 {z0 z : St} {N : Nat} {x0 : Nat} {x1 : Nat} {x2 : Int32} {x3 : Int32} (h : zEq zClP z0 z) : zPr zClP z0 (fX19_arriveThanks_110 N x0 x1 x2 x3 z) := by
  unfold fX19_arriveThanks_110
  exact pX19_arriveThanks_111  h
theorem pX19_arriveThanks_72 {z0 z : St} {N : Nat} {x0 : Nat} {x1 : Nat} {x2 : Int32} {x3 : Int32} {s0 : Int32} (h : zEq zClP z0 z) : zPr zClP z0 (fX19_arriveThanks_72 N x0 x1 x2 x3 s0 z) := by
  unfold fX19_arriveThanks_72
  exact zp_c (pX19_isBefore  h) (fun r1 z2 h1 => zp_i (pX19_arriveThanks_195  h1) (zp_i (pX19_arriveThanks_195  h1) (zp_i (pX19_arriveThanks_110  h1) (zp_c (pX19_seg  h1) (fun r8 z9 h2 => zp_i (pX19_arriveThanks_110  h2) (pX19_arriveThanks_111  h2))))))
theorem pX19_arriveThanks_67 {z0 z : St} {N : Nat} {x0 : Nat} {x1 : Nat} {x2 : Int32} {x3 : Int32} (h : zEq zClP z0 z) : zPr zClP z0 (fX19_arriveThanks_67 N x0 x1 x2 x3 z) := by
  unfold fX19_arriveThanks_67
  exact pX19_arriveThanks_72  h
theorem pX19_arriveThanks_71 {z0 z : St} {N : Nat} {x0 : Nat} {x1 : Nat} {x2 : Int32} {x3 : Int32} (h : zEq zClP z0 z) : zPr zClP z0 (fX19_arriveThanks_71 N x0 x1 x2 x3 z) := by
  unfold fX19_arriveThanks_71
  exact pX19_arriveThanks_72  h
theorem pX19_arriveThanks_27 {z0 z : St} {N : Nat} {x0 : Nat} {x1 : Nat} {x2 : Int32} {x3 : Int32} (h : zEq zClP z0 z) : zPr zClP z0 (fX19_arriveThanks_27 N x0 x1 x2 x3 z) := by
  unfold fX19_arriveThanks_27
  exact zp_c (pX19_seg  h) (fun r1 z2 h1 => zp_c (pX19_isBefore  h1) (fun r5 z6 h2 => zp_i (pX19_arriveThanks_67  h2) (zp_c (pX19_seg  h2) (fun r10 z11 h3 => zp_i (pX19_arriveThanks_71  h3) (zp_c (pX19_isBefore  h3) (fun r15 z16 h4 => zp_i (pX19_arriveThanks_71  h4) (pX19_arriveThanks_67  h4)))))))
theorem pX19_arriveThanks {z0 z : St} {N : Nat} {x0 : Nat} {x1 : Nat} {x2 : Int32} (h : zEq zClP z0 z) : zPr zClP z0 (fX19_arriveThanks N x0 x1 x2 z) := by
  unfold fX19_arriveThanks
  exact zp_c (pX19_seg  h) (fun r1 z2 h1 => zp_c (pX19_isBefore  h1) (fun r5 z6 h2 => zp_i (pX19_arriveThanks_27  h2) (zp_c (pX14_thankedFor  h2) (fun _ z11 h3 => pX19_arriveThanks_27  h3))))
theorem pX19_arrives_72 {z0 z : St} {N : Nat} {x0 : Nat} {x1 : Nat} {x2 : Int32} {s0 : Nat} {s1 : Int32} (h : zEq zClP z0 z) : zPr zClP z0 (fX19_arrives_72 N x0 x1 x2 s0 s1 z) := by
  unfold fX19_arrives_72
  exact zp_q (zp_lI h rfl (fun z1 h1 => zp_i (zp_s h1) (zp_c (pX19_has  h1) (fun r4 z5 h2 => zp_i (zp_s h2) (zp_lI h2 rfl (fun z9 h3 => zp_s h3))))))
theorem pX19_arrives_67 {z0 z : St} {N : Nat} {x0 : Nat} {x1 : Nat} {x2 : Int32} {s0 : Nat} (h : zEq zClP z0 z) : zPr zClP z0 (fX19_arrives_67 N x0 x1 x2 s0 z) := by
  unfold fX19_arrives_67
  exact pX19_arrives_72  h
theorem pX19_arrives_187 {z0 z : St} {N : Nat} {x0 : Nat} {s0 : Nat} {s1 : Int32} (h : zEq zClP z0 z) : zPr zClP z0 (fX19_arrives_187 N x0 s0 s1 z) := by
  unfold fX19_arrives_187
  exact zp_c (pX14_become  h) (fun _ z2 h1 => zp_s h1)
theorem pX19_arrives_181 {z0 z : St} {N : Nat} {x0 : Nat} {s0 : Nat} (h : zEq zClP z0 z) : zPr zClP z0 (fX19_arrives_181 N x0 s0 z) := by
  unfold fX19_arrives_181
  exact pX19_arrives_187  h
theorem pX19_arrives_153 {z0 z : St} {N : Nat} {x0 : Nat} {x1 : Nat} (h : zEq zClP z0 z) : zPr zClP z0 (fX19_arrives_153 N x0 x1 z) := by
  unfold fX19_arrives_153
  exact zp_i (pX19_arrives_181  h) (zp_i (pX19_arrives_181  h) (zp_i (pX19_arrives_187  h) (pX19_arrives_181  h)))
theorem pX19_arrives_300 {z0 z : St} {N : Nat} {x0 : Nat} {x1 : Nat} {x2 : Int32} (h : zEq zClP z0 z) : zPr zClP z0 (fX19_arrives_300 N x0 x1 x2 z) := by
  unfold fX19_arrives_300
  exact zp_c (pX19_arriveThanks  h) (fun _ z2 h1 => zp_i (zp_s h1) (zp_c (pX19_arriveBytes  h1) (fun _ z7 h2 => zp_s h2)))
theorem pX19_arrives_266 {z0 z : St} {N : Nat} {x0 : Nat} {x1 : Nat} {x2 : Int32} {s0 : Nat} {s1 : Int32} (h : zEq zClP z0 z) : zPr zClP z0 (fX19_arrives_266 N x0 x1 x2 s0 s1 z) := by
  unfold fX19_arrives_266
  exact zp_lI h rfl (fun z1 h1 => zp_lI h1 rfl (fun z2 h2 => pX19_arrives_300  h2))
theorem pX19_arrives {z0 z : St} {N : Nat} {x0 : Nat} {x1 : Nat} {x2 : Int32} (h : zEq zClP z0 z) : zPr zClP z0 (fX19_arrives N x0 x1 x2 z) := by
  unfold fX19_arrives
  exact zp_i (zp_i (zp_c (pX19_seg  h) (fun r3 z4 h1 => zp_c (pX19_sizeOf  h1) (fun r7 z8 h2 => zp_c (pX14_fits  h2) (fun r11 z12 h3 => zp_i (zp_c (pX19_has  h3) (fun r16 z17 h4 => zp_i (zp_c (pX19_has  h4) (fun r21 z22 h5 => zp_i (zp_c (pX19_has  h5) (fun r26 z27 h6 => zp_i (zp_i (zp_c (pX19_seg  h6) (fun r32 z33 h7 => zp_c (pX19_isBefore  h7) (fun r36 z37 h8 => zp_i (pX19_arrives_300  h8) (zp_lI h8 rfl (fun z41 h9 => zp_s h9))))) (zp_c (pX19_seg  h6) (fun r42 z43 h10 => zp_i (zp_i (pX19_arrives_266  h10) (pX19_arrives_266  h10)) (zp_c (pX19_answer  h10) (fun _ z49 h11 => zp_s h11))))) (zp_s h6))) (zp_lI h5 rfl (fun z52 h12 => zp_s h12)))) (zp_c (pX19_seg  h4) (fun r53 z54 h13 => zp_i (zp_i (pX19_arrives_153  h13) (zp_i (pX19_arrives_153  h13) (zp_s h13))) (zp_lI h13 rfl (fun z60 h14 => zp_s h14)))))) (zp_i (pX19_arrives_67  h3) (zp_c (pX19_has  h3) (fun r62 z63 h15 => zp_i (pX19_arrives_72  h15) (pX19_arrives_67  h15)))))))) (zp_c (pX19_arriveAsking  h) (fun _ z68 h16 => zp_s h16))) (zp_c (pX19_arriveListening  h) (fun _ z72 h17 => zp_s h17))
theorem pX19_newBooks {z0 z : St} {N : Nat} {x0 : Nat} {x1 : Nat} (h : zEq zClP z0 z) : zPr zClP z0 (fX19_newBooks N x0 x1 z) := by
  unfold fX19_newBooks
  exact zp_c (pX19_dropBook  h) (fun _ z2 h1 => zp_c (pX19_dropBook  h1) (fun _ z6 h2 => zp_c (pX19_newBook  h2) (fun r9 z10 h3 => zp_lI h3 rfl (fun z13 h4 => zp_lI h4 rfl (fun z14 h5 => zp_s h5)))))
theorem pX19_giveEnd {z0 z : St} {N : Nat} {x0 : Nat} {x1 : Nat} {x2 : Nat} {x3 : Int32} {x4 : Int32} {x5 : Int32} (h : zEq zClP z0 z) : zPr zClP z0 (fX19_giveEnd N x0 x1 x2 x3 x4 x5 z) := by
  unfold fX19_giveEnd
  exact zp_l (fun y1 => zp_k (zp_l (fun y3 => zp_d (fun a4 => zp_l (fun y5 => zp_d (fun a6 => zp_d (fun a7 => zp_c (pX14_begin  h) (fun _ z9 h1 => zp_lI h1 rfl (fun z12 h2 => zp_c (pX19_newBooks  h2) (fun _ z14 h3 => zp_lI h3 rfl (fun z17 h4 => zp_lI h4 rfl (fun z18 h5 => zp_lI h5 rfl (fun z19 h6 => zp_lI h6 rfl (fun z20 h7 => zp_lI h7 rfl (fun z21 h8 => zp_lI h8 rfl (fun z22 h9 => zp_lI h9 rfl (fun z23 h10 => zp_lI h10 rfl (fun z24 h11 => zp_lI h11 rfl (fun z25 h12 => zp_s h12)))))))))))))))))))
theorem pX19_leastFree_34 {z0 z : St} {N : Nat} {K2 : Nat → Int32 → St → Option (Int32 × St)} {x0 : Nat} {x1 : Int32} (hK2 : ∀ a0 a1 a2, zEq zClP z0 a2 → zPr zClP z0 (K2 a0 a1 a2)) (h : zEq zClP z0 z) : zPr zClP z0 (fX19_leastFree_34 N K2 x0 x1 z) := by
  unfold fX19_leastFree_34
  exact zp_l (fun v1 => hK2 _ _ _ h)
theorem pX19_leastFree_2b {z0 z : St} {N : Nat} {K2 : Nat → Int32 → St → Option (Int32 × St)} {x0 : Nat} {x1 : Int32} (hK2 : ∀ a0 a1 a2, zEq zClP z0 a2 → zPr zClP z0 (K2 a0 a1 a2)) (h : zEq zClP z0 z) : zPr zClP z0 (fX19_leastFree_2b N K2 x0 x1 z) := by
  unfold fX19_leastFree_2b
  exact zp_i (zp_s h) (zp_k (zp_l (fun y3 => zp_d (fun a4 => zp_i (pX19_leastFree_34 hK2 h) (zp_k (zp_l (fun y7 => zp_d (fun a8 => zp_i (pX19_leastFree_34 hK2 h) (zp_s h)))))))))
theorem pX19_leastFree_2 {z0 : St} {N : Nat} : ∀ (n : Nat) (y0 : Nat) (y1 : Int32) (z : St), zEq zClP z0 z → zPr zClP z0 (fX19_leastFree_2 N n y0 y1 z) := by
  intro n
  induction n with
  | zero => intro y0 y1 z h; exact zp_n
  | succ n ih => intro y0 y1 z h; exact pX19_leastFree_2b  (fun _ _ _ h => ih _ _ _ h) h
theorem pX19_leastFree {z0 z : St} {N : Nat} {x0 : Nat} (h : zEq zClP z0 z) : zPr zClP z0 (fX19_leastFree N x0 z) := by
  unfold fX19_leastFree
  exact pX19_leastFree_2  _ _ _ _ h
theorem pX19_knock_58 {z0 z : St} {N : Nat} {K6 : Nat → Nat → Int32 → Int32 → Int32 → Int32 → Int32 → Int32 → Int32 → St → Option (Int32 × St)} {x0 : Nat} {x1 : Nat} {x2 : Int32} {x3 : Int32} {x4 : Int32} {x5 : Int32} {x6 : Int32} {x8 : Int32} {s0 : Int32} {s1 : Int32} (hK6 : ∀ a0 a1 a2 a3 a4 a5 a6 a7 a8 a9, zEq zClP z0 a9 → zPr zClP z0 (K6 a0 a1 a2 a3 a4 a5 a6 a7 a8 a9)) (h : zEq zClP z0 z) : zPr zClP z0 (fX19_knock_58 N K6 x0 x1 x2 x3 x4 x5 x6 x8 s0 s1 z) := by
  unfold fX19_knock_58
  exact zp_l (fun v1 => zp_l (fun v2 => hK6 _ _ _ _ _ _ _ _ _ _ h))
theorem pX19_knock_57 {z0 z : St} {N : Nat} {K6 : Nat → Nat → Int32 → Int32 → Int32 → Int32 → Int32 → Int32 → Int32 → St → Option (Int32 × St)} {x0 : Nat} {x1 : Nat} {x2 : Int32} {x3 : Int32} {x4 : Int32} {x5 : Int32} {x6 : Int32} {x8 : Int32} {s0 : Int32} (hK6 : ∀ a0 a1 a2 a3 a4 a5 a6 a7 a8 a9, zEq zClP z0 a9 → zPr zClP z0 (K6 a0 a1 a2 a3 a4 a5 a6 a7 a8 a9)) (h : zEq zClP z0 z) : zPr zClP z0 (fX19_knock_57 N K6 x0 x1 x2 x3 x4 x5 x6 x8 s0 z) := by
  unfold fX19_knock_57
  exact pX19_knock_58 hK6 h
theorem pX19_knock_6b {z0 z : St} {N : Nat} {K6 : Nat → Nat → Int32 → Int32 → Int32 → Int32 → Int32 → Int32 → Int32 → St → Option (Int32 × St)} {x0 : Nat} {x1 : Nat} {x2 : Int32} {x3 : Int32} {x4 : Int32} {x5 : Int32} {x6 : Int32} {x7 : Int32} {x8 : Int32} (hK6 : ∀ a0 a1 a2 a3 a4 a5 a6 a7 a8 a9, zEq zClP z0 a9 → zPr zClP z0 (K6 a0 a1 a2 a3 a4 a5 a6 a7 a8 a9)) (h : zEq zClP z0 z) : zPr zClP z0 (fX19_knock_6b N K6 x0 x1 x2 x3 x4 x5 x6 x7 x8 z) := by
  unfold fX19_knock_6b
  exact zp_i (zp_c (pX19_leastFree  h) (fun r2 z3 h1 => zp_k (zp_l (fun y7 => zp_d (fun a8 => zp_i (zp_s h1) (zp_i (zp_k (zp_l (fun y12 => zp_d (fun a13 => zp_c (pX19_giveEnd  h1) (fun _ z15 h2 => zp_lI h2 rfl (fun z18 h3 => zp_lI h3 rfl (fun z19 h4 => zp_l (fun y20 => zp_d (fun a21 => zp_lI h4 rfl (fun z22 h5 => zp_l (fun y23 => zp_d (fun a24 => zp_lI h5 rfl (fun z25 h6 => zp_l (fun y26 => zp_d (fun a27 => zp_c (pX19_arrives  h6) (fun r28 z29 h7 => zp_s h7)))))))))))))))) (zp_s h1))))))) (zp_k (zp_l (fun y33 => zp_d (fun a34 => zp_i (pX19_knock_57 hK6 h) (zp_i (pX19_knock_57 hK6 h) (zp_l (fun y37 => zp_d (fun a38 => zp_i (pX19_knock_57 hK6 h) (pX19_knock_58 hK6 h)))))))))
theorem pX19_knock_6 {z0 : St} {N : Nat} : ∀ (n : Nat) (y0 : Nat) (y1 : Nat) (y2 : Int32) (y3 : Int32) (y4 : Int32) (y5 : Int32) (y6 : Int32) (y7 : Int32) (y8 : Int32) (z : St), zEq zClP z0 z → zPr zClP z0 (fX19_knock_6 N n y0 y1 y2 y3 y4 y5 y6 y7 y8 z) := by
  intro n
  induction n with
  | zero => intro y0 y1 y2 y3 y4 y5 y6 y7 y8 z h; exact zp_n
  | succ n ih => intro y0 y1 y2 y3 y4 y5 y6 y7 y8 z h; exact pX19_knock_6b  (fun _ _ _ _ _ _ _ _ _ _ h => ih _ _ _ _ _ _ _ _ _ _ h) h
theorem pX19_knock {z0 z : St} {N : Nat} {x0 : Nat} {x1 : Nat} {x2 : Int32} {x3 : Int32} {x4 : Int32} {x5 : Int32} {x6 : Int32} (h : zEq zClP z0 z) : zPr zClP z0 (fX19_knock N x0 x1 x2 x3 x4 x5 x6 z) := by
  unfold fX19_knock
  exact pX19_knock_6  _ _ _ _ _ _ _ _ _ _ _ h
theorem pX19_say {z0 z : St} {N : Nat} {x0 : Nat} {x1 : Nat} {x2 : Int32} {x3 : Int32} {x4 : Int32} {x5 : Int32} (h : zEq zClP z0 z) : zPr zClP z0 (fX19_say N x0 x1 x2 x3 x4 x5 z) := by
  unfold fX19_say
  exact zp_c (pX19_setSeg  h) (fun _ z2 h1 => zp_c (pX19_setSeg  h1) (fun _ z6 h2 => zp_c (pX19_seg  h2) (fun r9 z10 h3 => zp_k (zp_l (fun y14 => zp_d (fun a15 => zp_c (pX18_address  h3) (fun r16 z17 h4 => zp_c (pX19_make  h4) (fun r20 z21 h5 => zp_c (pX19_set  h5) (fun _ z25 h6 => zp_c (pX19_hostSends  h6) (fun _ z29 h7 => zp_c (pX19_drop  h7) (fun _ z33 h8 => zp_s h8)))))))))))
theorem pX19_segment_152 {z0 z : St} {N : Nat} {K19 : Nat → Nat → Int32 → Int32 → Int32 → Int32 → Int32 → St → Option (Int32 × St)} {x0 : Nat} {x1 : Nat} {x2 : Int32} {x3 : Int32} {x4 : Int32} {x5 : Int32} {x6 : Int32} (hK19 : ∀ a0 a1 a2 a3 a4 a5 a6 a7, zEq zClP z0 a7 → zPr zClP z0 (K19 a0 a1 a2 a3 a4 a5 a6 a7)) (h : zEq zClP z0 z) : zPr zClP z0 (fX19_segment_152 N K19 x0 x1 x2 x3 x4 x5 x6 z) := by
  unfold fX19_segment_152
  exact zp_l (fun v1 => hK19 _ _ _ _ _ _ _ _ h)
theorem pX19_segment_238 {z0 z : St} {N : Nat} {K189 : Nat → Nat → Int32 → Int32 → Int32 → Int32 → Int32 → St → Option (Int32 × St)} {x0 : Nat} {x1 : Nat} {x2 : Int32} {x3 : Int32} {x4 : Int32} {x5 : Int32} {x6 : Int32} (hK189 : ∀ a0 a1 a2 a3 a4 a5 a6 a7, zEq zClP z0 a7 → zPr zClP z0 (K189 a0 a1 a2 a3 a4 a5 a6 a7)) (h : zEq zClP z0 z) : zPr zClP z0 (fX19_segment_238 N K189 x0 x1 x2 x3 x4 x5 x6 z) := by
  unfold fX19_segment_238
  exact zp_l (fun v1 => hK189 _ _ _ _ _ _ _ _ h)
theorem pX19_segment_319 {z0 z : St} {N : Nat} {x0 : Nat} {x1 : Nat} {x3 : Int32} {x4 : Int32} {x5 : Int32} {x7 : Int32} {s0 : Nat} {s1 : Int32} {s2 : Int32} {s3 : Int32} (h : zEq zClP z0 z) : zPr zClP z0 (fX19_segment_319 N x0 x1 x3 x4 x5 x7 s0 s1 s2 s3 z) := by
  unfold fX19_segment_319
  exact zp_c (pX19_setSeg  h) (fun _ z2 h1 => zp_c (pX19_say  h1) (fun _ z6 h2 => zp_s h2))
theorem pX19_segment_289 {z0 z : St} {N : Nat} {x0 : Nat} {x1 : Nat} {x2 : Int32} {x3 : Int32} {x4 : Int32} {x5 : Int32} {x6 : Int32} {s0 : Nat} {s1 : Int32} {s2 : Int32} (h : zEq zClP z0 z) : zPr zClP z0 (fX19_segment_289 N x0 x1 x2 x3 x4 x5 x6 s0 s1 s2 z) := by
  unfold fX19_segment_289
  exact zp_c (pX19_newSegment  h) (fun r1 z2 h1 => zp_i (zp_c (pX19_seg  h1) (fun r6 z7 h2 => zp_c (pX19_sizeOf  h2) (fun r10 z11 h3 => pX19_segment_319  h3))) (pX19_segment_319  h1))
theorem pX19_segment_274 {z0 z : St} {N : Nat} {x0 : Nat} {x1 : Nat} {x2 : Int32} {x3 : Int32} {x4 : Int32} {x5 : Int32} {x6 : Int32} {s0 : Nat} {s1 : Int32} (h : zEq zClP z0 z) : zPr zClP z0 (fX19_segment_274 N x0 x1 x2 x3 x4 x5 x6 s0 s1 z) := by
  unfold fX19_segment_274
  exact zp_i (pX19_segment_289  h) (zp_c (pX19_seg  h) (fun r2 z3 h1 => pX19_segment_289  h1))
theorem pX19_segment_244 {z0 z : St} {N : Nat} {x0 : Nat} {x1 : Nat} {x2 : Int32} {x3 : Int32} {x4 : Int32} {x5 : Int32} (h : zEq zClP z0 z) : zPr zClP z0 (fX19_segment_244 N x0 x1 x2 x3 x4 x5 z) := by
  unfold fX19_segment_244
  exact zp_c (pX19_has  h) (fun r1 z2 h1 => zp_i (zp_s h1) (zp_c (pX19_has  h1) (fun r6 z7 h2 => zp_i (pX19_segment_274  h2) (pX19_segment_274  h2))))
theorem pX19_segment_189b {z0 z : St} {N : Nat} {K189 : Nat → Nat → Int32 → Int32 → Int32 → Int32 → Int32 → St → Option (Int32 × St)} {x0 : Nat} {x1 : Nat} {x2 : Int32} {x3 : Int32} {x4 : Int32} {x5 : Int32} {x6 : Int32} (hK189 : ∀ a0 a1 a2 a3 a4 a5 a6 a7, zEq zClP z0 a7 → zPr zClP z0 (K189 a0 a1 a2 a3 a4 a5 a6 a7)) (h : zEq zClP z0 z) : zPr zClP z0 (fX19_segment_189b N K189 x0 x1 x2 x3 x4 x5 x6 z) := by
  unfold fX19_segment_189b
  exact zp_i (pX19_segment_244  h) (zp_k (zp_l (fun y3 => zp_d (fun a4 => zp_i (pX19_segment_238 hK189 h) (zp_k (zp_l (fun y7 => zp_d (fun a8 => zp_i (pX19_segment_238 hK189 h) (zp_c (pX19_knock  h) (fun _ z11 h1 => zp_s h1))))))))))
theorem pX19_segment_189 {z0 : St} {N : Nat} : ∀ (n : Nat) (y0 : Nat) (y1 : Nat) (y2 : Int32) (y3 : Int32) (y4 : Int32) (y5 : Int32) (y6 : Int32) (z : St), zEq zClP z0 z → zPr zClP z0 (fX19_segment_189 N n y0 y1 y2 y3 y4 y5 y6 z) := by
  intro n
  induction n with
  | zero => intro y0 y1 y2 y3 y4 y5 y6 z h; exact zp_n
  | succ n ih => intro y0 y1 y2 y3 y4 y5 y6 z h; exact pX19_segment_189b  (fun _ _ _ _ _ _ _ _ h => ih _ _ _ _ _ _ _ _ h) h
theorem pX19_segment_19b {z0 z : St} {N : Nat} {K19 : Nat → Nat → Int32 → Int32 → Int32 → Int32 → Int32 → St → Option (Int32 × St)} {x0 : Nat} {x1 : Nat} {x2 : Int32} {x3 : Int32} {x4 : Int32} {x5 : Int32} {x6 : Int32} (hK19 : ∀ a0 a1 a2 a3 a4 a5 a6 a7, zEq zClP z0 a7 → zPr zClP z0 (K19 a0 a1 a2 a3 a4 a5 a6 a7)) (h : zEq zClP z0 z) : zPr zClP z0 (fX19_segment_19b N K19 x0 x1 x2 x3 x4 x5 x6 z) := by
  unfold fX19_segment_19b
  exact zp_i (zp_c (pX19_has  h) (fun r2 z3 h1 => zp_i (pX19_segment_244  h1) (zp_c (pX19_has  h1) (fun r7 z8 h2 => zp_i (pX19_segment_244  h2) (zp_c (pX19_has  h2) (fun r12 z13 h3 => zp_i (pX19_segment_244  h3) (pX19_segment_189  _ _ _ _ _ _ _ _ _ h3))))))) (zp_k (zp_l (fun y18 => zp_d (fun a19 => zp_l (fun y20 => zp_k (zp_l (fun y22 => zp_d (fun a23 => zp_i (pX19_segment_152 hK19 h) (zp_d (fun a25 => zp_c (pX14_isDead  h) (fun r26 z27 h4 => zp_i (pX19_segment_152 hK19 h4) (zp_i (pX19_segment_152 hK19 h4) (zp_i (pX19_segment_152 hK19 h4) (zp_i (pX19_segment_152 hK19 h4) (zp_c (pX19_arrives  h4) (fun r34 z35 h5 => zp_i (zp_s h5) (zp_c (pX14_begin  h5) (fun _ z40 h6 => zp_k (zp_lA h6 rfl (fun z44 h7 => zp_c (pX19_dropBook  h7) (fun _ z46 h8 => zp_lI h8 rfl (fun z49 h9 => zp_lI h9 rfl (fun z50 h10 => zp_lI h10 rfl (fun z51 h11 => zp_s h11))))))))))))))))))))))))
theorem pX19_segment_19 {z0 : St} {N : Nat} : ∀ (n : Nat) (y0 : Nat) (y1 : Nat) (y2 : Int32) (y3 : Int32) (y4 : Int32) (y5 : Int32) (y6 : Int32) (z : St), zEq zClP z0 z → zPr zClP z0 (fX19_segment_19 N n y0 y1 y2 y3 y4 y5 y6 z) := by
  intro n
  induction n with
  | zero => intro y0 y1 y2 y3 y4 y5 y6 z h; exact zp_n
  | succ n ih => intro y0 y1 y2 y3 y4 y5 y6 z h; exact pX19_segment_19b  (fun _ _ _ _ _ _ _ _ h => ih _ _ _ _ _ _ _ _ h) h
theorem pX19_segment {z0 z : St} {N : Nat} {x0 : Nat} {x1 : Nat} {x2 : Int32} {x3 : Int32} (h : zEq zClP z0 z) : zPr zClP z0 (fX19_segment N x0 x1 x2 x3 z) := by
  unfold fX19_segment
  exact zp_c (pX19_seg  h) (fun r1 z2 h1 => zp_c (pX19_seg  h1) (fun r5 z6 h2 => pX19_segment_19  _ _ _ _ _ _ _ _ _ h2))
theorem pX19_handle_226 {z0 z : St} {N : Nat} {x0 : Nat} {x2 : Int32} {x4 : Option Nat} {x5 : Int32} {s0 : Int32} (h : zEq zClP z0 z) : zPr zClP z0 (fX19_handle_226 N x0 x2 x4 x5 s0 z) := by
  unfold fX19_handle_226
  exact zp_i (zp_s h) (zp_c (pX19_ad  h) (fun r2 z3 h1 => zp_c (pX19_of  h1) (fun r6 z7 h2 => zp_i (zp_s h2) (zp_d (fun a11 => zp_k (zp_lA h2 rfl (fun z13 h3 => zp_s h3)))))))
theorem pX19_handle_162 {z0 z : St} {N : Nat} {x0 : Nat} {x1 : Nat} {x2 : Int32} {x3 : Int32} (h : zEq zClP z0 z) : zPr zClP z0 (fX19_handle_162 N x0 x1 x2 x3 z) := by
  unfold fX19_handle_162
  exact zp_i (zp_s h) (zp_i (zp_s h) (zp_c (pX19_of  h) (fun r3 z4 h1 => zp_c (pX19_of  h1) (fun r7 z8 h2 => zp_c (pX19_friend  h2) (fun r11 z12 h3 => zp_c (pX19_of  h3) (fun r15 z16 h4 => zp_l (fun v19 => zp_o (pX19_handle_226  h4) (fun a21 => zp_k (pX19_handle_226  h4)))))))))
theorem pX19_handle_141 {z0 z : St} {N : Nat} {x0 : Nat} {x1 : Nat} {x2 : Int32} {x3 : Int32} (h : zEq zClP z0 z) : zPr zClP z0 (fX19_handle_141 N x0 x1 x2 x3 z) := by
  unfold fX19_handle_141
  exact zp_i (pX19_handle_162  h) (zp_i (pX19_handle_162  h) (zp_c (pX19_advertCame  h) (fun _ z4 h1 => zp_s h1)))
theorem pX19_handle_100 {z0 z : St} {N : Nat} {x0 : Nat} {x1 : Nat} {x2 : Int32} {x3 : Int32} (h : zEq zClP z0 z) : zPr zClP z0 (fX19_handle_100 N x0 x1 x2 x3 z) := by
  unfold fX19_handle_100
  exact zp_i (pX19_handle_141  h) (zp_i (pX19_handle_141  h) (zp_c (pX19_of  h) (fun r3 z4 h1 => zp_c (pX19_of  h1) (fun r7 z8 h2 => zp_c (pX19_of  h2) (fun r11 z12 h3 => zp_c (pX19_greeted  h3) (fun _ z16 h4 => zp_s h4))))))
theorem pX19_handle {z0 z : St} {N : Nat} {x0 : Nat} {x1 : Nat} {x2 : Int32} (h : zEq zClP z0 z) : zPr zClP z0 (fX19_handle N x0 x1 x2 z) := by
  unfold fX19_handle
  exact zp_lI h rfl (fun z1 h1 => zp_c (pX19_of  h1) (fun r2 z3 h2 => zp_i (zp_i (pX19_handle_100  h2) (zp_i (pX19_handle_100  h2) (zp_c (pX19_of  h2) (fun r9 z10 h3 => zp_c (pX19_of  h3) (fun r13 z14 h4 => zp_c (pX19_segment  h4) (fun _ z18 h5 => zp_s h5)))))) (zp_lI h2 rfl (fun z21 h6 => zp_c (pX19_of  h6) (fun r22 z23 h7 => zp_c (pX19_of  h7) (fun r26 z27 h8 => zp_c (pX19_of  h8) (fun r30 z31 h9 => zp_c (pX19_of  h9) (fun r34 z35 h10 => zp_c (pX19_act  h10) (fun _ z39 h11 => zp_s h11)))))))))
theorem pX19_get_102 {z0 z : St} {N : Nat} {K22 : Nat → Nat → Int32 → Int32 → Int32 → St → Option (Int32 × St)} {x0 : Nat} {x1 : Nat} {x2 : Int32} {x4 : Int32} {s0 : Int32} (hK22 : ∀ a0 a1 a2 a3 a4 a5, zEq zClP z0 a5 → zPr zClP z0 (K22 a0 a1 a2 a3 a4 a5)) (h : zEq zClP z0 z) : zPr zClP z0 (fX19_get_102 N K22 x0 x1 x2 x4 s0 z) := by
  unfold fX19_get_102
  exact zp_l (fun v1 => hK22 _ _ _ _ _ _ h)
theorem pX19_get_101 {z0 z : St} {N : Nat} {K22 : Nat → Nat → Int32 → Int32 → Int32 → St → Option (Int32 × St)} {x0 : Nat} {x1 : Nat} {x2 : Int32} {x3 : Int32} {x4 : Int32} (hK22 : ∀ a0 a1 a2 a3 a4 a5, zEq zClP z0 a5 → zPr zClP z0 (K22 a0 a1 a2 a3 a4 a5)) (h : zEq zClP z0 z) : zPr zClP z0 (fX19_get_101 N K22 x0 x1 x2 x3 x4 z) := by
  unfold fX19_get_101
  exact pX19_get_102 hK22 h
theorem pX19_get_317 {z0 z : St} {N : Nat} {x0 : Nat} {x1 : Nat} {x2 : Int32} {x3 : Int32} {x4 : Option Nat} (h : zEq zClP z0 z) : zPr zClP z0 (fX19_get_317 N x0 x1 x2 x3 x4 z) := by
  unfold fX19_get_317
  exact zp_d (fun a1 => zp_c (pX17_isWhole  h) (fun r2 z3 h1 => zp_i (zp_s h1) (zp_c (pX19_endPieces  h1) (fun _ z8 h2 => zp_lI h2 rfl (fun z11 h3 => zp_c (pX19_handle  h3) (fun _ z13 h4 => zp_s h4))))))
theorem pX19_get_275b {z0 z : St} {N : Nat} {K275 : Nat → Nat → Int32 → Int32 → Option Nat → Int32 → Int32 → St → Option (Int32 × St)} {x0 : Nat} {x1 : Nat} {x2 : Int32} {x3 : Int32} {x4 : Option Nat} {x5 : Int32} {x6 : Int32} (hK275 : ∀ a0 a1 a2 a3 a4 a5 a6 a7, zEq zClP z0 a7 → zPr zClP z0 (K275 a0 a1 a2 a3 a4 a5 a6 a7)) (h : zEq zClP z0 z) : zPr zClP z0 (fX19_get_275b N K275 x0 x1 x2 x3 x4 x5 x6 z) := by
  unfold fX19_get_275b
  exact zp_i (zp_c (pX19_of  h) (fun r2 z3 h1 => zp_i (pX19_get_317  h1) (zp_d (fun a7 => zp_lI h1 rfl (fun z8 h2 => pX19_get_317  h2))))) (zp_d (fun a9 => zp_k (zp_lA h rfl (fun z11 h3 => zp_l (fun v12 => hK275 _ _ _ _ _ _ _ _ h3)))))
theorem pX19_get_275 {z0 : St} {N : Nat} : ∀ (n : Nat) (y0 : Nat) (y1 : Nat) (y2 : Int32) (y3 : Int32) (y4 : Option Nat) (y5 : Int32) (y6 : Int32) (z : St), zEq zClP z0 z → zPr zClP z0 (fX19_get_275 N n y0 y1 y2 y3 y4 y5 y6 z) := by
  intro n
  induction n with
  | zero => intro y0 y1 y2 y3 y4 y5 y6 z h; exact zp_n
  | succ n ih => intro y0 y1 y2 y3 y4 y5 y6 z h; exact pX19_get_275b  (fun _ _ _ _ _ _ _ _ h => ih _ _ _ _ _ _ _ _ h) h
theorem pX19_get_239 {z0 z : St} {N : Nat} {x0 : Nat} {x1 : Nat} {x2 : Int32} {x3 : Int32} (h : zEq zClP z0 z) : zPr zClP z0 (fX19_get_239 N x0 x1 x2 x3 z) := by
  unfold fX19_get_239
  exact zp_k (zp_l (fun y2 => zp_c (pX19_of  h) (fun r3 z4 h1 => zp_c (pX19_of  h1) (fun r7 z8 h2 => zp_l (fun v11 => zp_c (pX19_of  h2) (fun r12 z13 h3 => zp_l (fun v16 => pX19_get_275  _ _ _ _ _ _ _ _ _ h3)))))))
theorem pX19_get_216b {z0 z : St} {N : Nat} {K216 : Nat → Nat → Int32 → Int32 → Nat → Int32 → St → Option (Int32 × St)} {x0 : Nat} {x1 : Nat} {x2 : Int32} {x3 : Int32} {x4 : Nat} {x5 : Int32} (hK216 : ∀ a0 a1 a2 a3 a4 a5 a6, zEq zClP z0 a6 → zPr zClP z0 (K216 a0 a1 a2 a3 a4 a5 a6)) (h : zEq zClP z0 z) : zPr zClP z0 (fX19_get_216b N K216 x0 x1 x2 x3 x4 x5 z) := by
  unfold fX19_get_216b
  exact zp_i (pX19_get_239  h) (zp_k (zp_lA h rfl (fun z3 h1 => zp_l (fun v4 => hK216 _ _ _ _ _ _ _ h1))))
theorem pX19_get_216 {z0 : St} {N : Nat} : ∀ (n : Nat) (y0 : Nat) (y1 : Nat) (y2 : Int32) (y3 : Int32) (y4 : Nat) (y5 : Int32) (z : St), zEq zClP z0 z → zPr zClP z0 (fX19_get_216 N n y0 y1 y2 y3 y4 y5 z) := by
  intro n
  induction n with
  | zero => intro y0 y1 y2 y3 y4 y5 z h; exact zp_n
  | succ n ih => intro y0 y1 y2 y3 y4 y5 z h; exact pX19_get_216b  (fun _ _ _ _ _ _ _ h => ih _ _ _ _ _ _ _ h) h
theorem pX19_get_131 {z0 z : St} {N : Nat} {x0 : Nat} {x1 : Nat} {x2 : Int32} (h : zEq zClP z0 z) : zPr zClP z0 (fX19_get_131 N x0 x1 x2 z) := by
  unfold fX19_get_131
  exact zp_l (fun v1 => zp_lI h rfl (fun z2 h1 => zp_k (zp_l (fun y4 => zp_c (pX19_of  h1) (fun r5 z6 h2 => zp_d (fun a9 => zp_lI h2 rfl (fun z10 h3 => zp_c (pX19_of  h3) (fun r11 z12 h4 => zp_lI h4 rfl (fun z15 h5 => zp_c (pX19_of  h5) (fun r16 z17 h6 => zp_lI h6 rfl (fun z20 h7 => zp_c (pX19_of  h7) (fun r21 z22 h8 => zp_lI h8 rfl (fun z25 h9 => zp_lI h9 rfl (fun z26 h10 => zp_lI h10 rfl (fun z27 h11 => pX19_get_216  _ _ _ _ _ _ _ _ h11)))))))))))))))
theorem pX19_get_22b {z0 z : St} {N : Nat} {K22 : Nat → Nat → Int32 → Int32 → Int32 → St → Option (Int32 × St)} {x0 : Nat} {x1 : Nat} {x2 : Int32} {x3 : Int32} {x4 : Int32} (hK22 : ∀ a0 a1 a2 a3 a4 a5, zEq zClP z0 a5 → zPr zClP z0 (K22 a0 a1 a2 a3 a4 a5)) (h : zEq zClP z0 z) : zPr zClP z0 (fX19_get_22b N K22 x0 x1 x2 x3 x4 z) := by
  unfold fX19_get_22b
  exact zp_i (zp_i (pX19_get_239  h) (zp_i (pX19_get_131  h) (zp_c (pX19_endPieces  h) (fun _ z5 h1 => zp_c (pX19_stir  h1) (fun _ z9 h2 => pX19_get_131  h2))))) (zp_k (zp_l (fun y13 => zp_d (fun a14 => zp_c (pX19_of  h) (fun r15 z16 h3 => zp_i (pX19_get_101 hK22 h3) (zp_c (pX19_of  h3) (fun r20 z21 h4 => zp_i (pX19_get_101 hK22 h4) (zp_c (pX19_of  h4) (fun r25 z26 h5 => zp_i (pX19_get_101 hK22 h5) (zp_c (pX19_of  h5) (fun r30 z31 h6 => zp_i (pX19_get_101 hK22 h6) (pX19_get_102 hK22 h6))))))))))))
theorem pX19_get_22 {z0 : St} {N : Nat} : ∀ (n : Nat) (y0 : Nat) (y1 : Nat) (y2 : Int32) (y3 : Int32) (y4 : Int32) (z : St), zEq zClP z0 z → zPr zClP z0 (fX19_get_22 N n y0 y1 y2 y3 y4 z) := by
  intro n
  induction n with
  | zero => intro y0 y1 y2 y3 y4 z h; exact zp_n
  | succ n ih => intro y0 y1 y2 y3 y4 z h; exact pX19_get_22b  (fun _ _ _ _ _ _ h => ih _ _ _ _ _ _ h) h
theorem pX19_get {z0 z : St} {N : Nat} {x0 : Nat} {x1 : Nat} {x2 : Int32} (h : zEq zClP z0 z) : zPr zClP z0 (fX19_get N x0 x1 x2 z) := by
  unfold fX19_get
  exact zp_c (pX19_of  h) (fun r1 z2 h1 => zp_i (pX19_get_22  _ _ _ _ _ _ _ h1) (zp_c (pX19_handle  h1) (fun _ z7 h2 => zp_s h2)))
theorem pX19_arrive_206 {z0 z : St} {N : Nat} {x0 : Nat} {x8 : Int32} (h : zEq zClP z0 z) : zPr zClP z0 (fX19_arrive_206 N x0 x8 z) := by
  unfold fX19_arrive_206
  exact zp_c (pX19_drop  h) (fun _ z2 h1 => zp_s h1)
theorem pX19_arrive_147 {z0 z : St} {N : Nat} {x0 : Nat} {x1 : Nat} {x8 : Int32} (h : zEq zClP z0 z) : zPr zClP z0 (fX19_arrive_147 N x0 x1 x8 z) := by
  unfold fX19_arrive_147
  exact zp_l (fun y1 => zp_d (fun a2 => zp_c (pX19_get  h) (fun _ z4 h1 => pX19_arrive_206  h1)))
theorem pX19_arrive_196 {z0 z : St} {N : Nat} {x0 : Nat} {x1 : Nat} {x8 : Int32} (h : zEq zClP z0 z) : zPr zClP z0 (fX19_arrive_196 N x0 x1 x8 z) := by
  unfold fX19_arrive_196
  exact zp_l (fun y1 => zp_d (fun a2 => zp_c (pX19_forward  h) (fun _ z4 h1 => pX19_arrive_206  h1)))
theorem pX19_arrive_68 {z0 z : St} {N : Nat} {x0 : Nat} {x1 : Nat} {x2 : Int32} {x3 : Int32} {x4 : Int32} {x5 : Int32} {x6 : Int32} (h : zEq zClP z0 z) : zPr zClP z0 (fX19_arrive_68 N x0 x1 x2 x3 x4 x5 x6 z) := by
  unfold fX19_arrive_68
  exact zp_i (zp_i (zp_s h) (zp_c (pX19_copyOf  h) (fun r3 z4 h1 => zp_c (pX19_set  h1) (fun _ z8 h2 => zp_c (pX19_of  h2) (fun r11 z12 h3 => zp_i (pX19_arrive_147  h3) (zp_l (fun y16 => zp_d (fun a17 => zp_c (pX19_isOwn  h3) (fun r18 z19 h4 => zp_i (zp_l (fun y23 => zp_d (fun a24 => zp_i (pX19_arrive_206  h4) (zp_i (pX19_arrive_206  h4) (zp_c (pX19_of  h4) (fun r27 z28 h5 => zp_i (pX19_arrive_196  h5) (zp_c (pX19_of  h5) (fun r32 z33 h6 => zp_i (pX19_arrive_206  h6) (pX19_arrive_196  h6))))))))) (pX19_arrive_147  h4)))))))))) (zp_c (pX18_address  h) (fun r37 z38 h7 => zp_i (zp_s h7) (zp_c (pX19_put  h7) (fun _ z43 h8 => zp_s h8))))
theorem pX19_arrive_37b {z0 z : St} {N : Nat} {K37 : Nat → Nat → Int32 → Int32 → Int32 → Int32 → Int32 → Int32 → St → Option (Int32 × St)} {x0 : Nat} {x1 : Nat} {x2 : Int32} {x3 : Int32} {x4 : Int32} {x5 : Int32} {x6 : Int32} {x8 : Int32} (hK37 : ∀ a0 a1 a2 a3 a4 a5 a6 a7 a8, zEq zClP z0 a8 → zPr zClP z0 (K37 a0 a1 a2 a3 a4 a5 a6 a7 a8)) (h : zEq zClP z0 z) : zPr zClP z0 (fX19_arrive_37b N K37 x0 x1 x2 x3 x4 x5 x6 x8 z) := by
  unfold fX19_arrive_37b
  exact zp_i (pX19_arrive_68  h) (zp_c (pX19_carry  h) (fun _ z3 h1 => zp_c (pX19_drop  h1) (fun _ z7 h2 => zp_c (pX19_firstWaiting  h2) (fun r10 z11 h3 => hK37 _ _ _ _ _ _ _ _ _ h3))))
theorem pX19_arrive_37 {z0 : St} {N : Nat} : ∀ (n : Nat) (y0 : Nat) (y1 : Nat) (y2 : Int32) (y3 : Int32) (y4 : Int32) (y5 : Int32) (y6 : Int32) (y7 : Int32) (z : St), zEq zClP z0 z → zPr zClP z0 (fX19_arrive_37 N n y0 y1 y2 y3 y4 y5 y6 y7 z) := by
  intro n
  induction n with
  | zero => intro y0 y1 y2 y3 y4 y5 y6 y7 z h; exact zp_n
  | succ n ih => intro y0 y1 y2 y3 y4 y5 y6 y7 z h; exact pX19_arrive_37b  (fun _ _ _ _ _ _ _ _ _ h => ih _ _ _ _ _ _ _ _ _ h) h
theorem pX19_arrive {z0 z : St} {N : Nat} {x0 : Nat} {x1 : Nat} {x2 : Int32} {x3 : Int32} {x4 : Int32} {x5 : Int32} {x6 : Int32} (h : zEq zClP z0 z) : zPr zClP z0 (fX19_arrive N x0 x1 x2 x3 x4 x5 x6 z) := by
  unfold fX19_arrive
  exact zp_k (zp_lA h rfl (fun z2 h1 => zp_c (pX18_askingOf  h1) (fun r3 z4 h2 => zp_i (pX19_arrive_68  h2) (zp_c (pX18_endAsking  h2) (fun _ z9 h3 => zp_c (pX19_firstWaiting  h3) (fun r12 z13 h4 => pX19_arrive_37  _ _ _ _ _ _ _ _ _ _ h4))))))
theorem pX19_arriveAll_186 {z0 z : St} {N : Nat} {K2 : Nat → Int32 → St → Option (Int32 × St)} {K125 : Nat → Int32 → Int32 → Int32 → Int32 → Int32 → Int32 → Option Nat → Int32 → St → Option (Int32 × St)} {x0 : Nat} {x1 : Int32} {x3 : Int32} {x4 : Int32} {x5 : Int32} {x6 : Int32} {x7 : Int32} {x8 : Nat} {x9 : Int32} (hK2 : ∀ a0 a1 a2, zEq zClP z0 a2 → zPr zClP z0 (K2 a0 a1 a2)) (hK125 : ∀ a0 a1 a2 a3 a4 a5 a6 a7 a8 a9, zEq zClP z0 a9 → zPr zClP z0 (K125 a0 a1 a2 a3 a4 a5 a6 a7 a8 a9)) (h : zEq zClP z0 z) : zPr zClP z0 (fX19_arriveAll_186 N K2 K125 x0 x1 x3 x4 x5 x6 x7 x8 x9 z) := by
  unfold fX19_arriveAll_186
  exact zp_l (fun v1 => hK125 _ _ _ _ _ _ _ _ _ _ h)
theorem pX19_arriveAll_154 {z0 z : St} {N : Nat} {K2 : Nat → Int32 → St → Option (Int32 × St)} {K125 : Nat → Int32 → Int32 → Int32 → Int32 → Int32 → Int32 → Option Nat → Int32 → St → Option (Int32 × St)} {x0 : Nat} {x1 : Int32} {x3 : Int32} {x4 : Int32} {x5 : Int32} {x6 : Int32} {x7 : Int32} {x8 : Nat} {x9 : Int32} (hK2 : ∀ a0 a1 a2, zEq zClP z0 a2 → zPr zClP z0 (K2 a0 a1 a2)) (hK125 : ∀ a0 a1 a2 a3 a4 a5 a6 a7 a8 a9, zEq zClP z0 a9 → zPr zClP z0 (K125 a0 a1 a2 a3 a4 a5 a6 a7 a8 a9)) (h : zEq zClP z0 z) : zPr zClP z0 (fX19_arriveAll_154 N K2 K125 x0 x1 x3 x4 x5 x6 x7 x8 x9 z) := by
  unfold fX19_arriveAll_154
  exact zp_lI h rfl (fun z1 h1 => zp_k (zp_l (fun y3 => zp_d (fun a4 => zp_c (pX19_arrive  h1) (fun _ z6 h2 => pX19_arriveAll_186 hK2 hK125 h2)))))
theorem pX19_arriveAll_204 {z0 z : St} {N : Nat} {K2 : Nat → Int32 → St → Option (Int32 × St)} {x0 : Nat} {x1 : Int32} (hK2 : ∀ a0 a1 a2, zEq zClP z0 a2 → zPr zClP z0 (K2 a0 a1 a2)) (h : zEq zClP z0 z) : zPr zClP z0 (fX19_arriveAll_204 N K2 x0 x1 z) := by
  unfold fX19_arriveAll_204
  exact hK2 _ _ _ h
theorem pX19_arriveAll_125b {z0 z : St} {N : Nat} {K2 : Nat → Int32 → St → Option (Int32 × St)} {K125 : Nat → Int32 → Int32 → Int32 → Int32 → Int32 → Int32 → Option Nat → Int32 → St → Option (Int32 × St)} {x0 : Nat} {x1 : Int32} {x3 : Int32} {x4 : Int32} {x5 : Int32} {x6 : Int32} {x7 : Int32} {x8 : Option Nat} {x9 : Int32} (hK2 : ∀ a0 a1 a2, zEq zClP z0 a2 → zPr zClP z0 (K2 a0 a1 a2)) (hK125 : ∀ a0 a1 a2 a3 a4 a5 a6 a7 a8 a9, zEq zClP z0 a9 → zPr zClP z0 (K125 a0 a1 a2 a3 a4 a5 a6 a7 a8 a9)) (h : zEq zClP z0 z) : zPr zClP z0 (fX19_arriveAll_125b N K2 K125 x0 x1 x3 x4 x5 x6 x7 x8 x9 z) := by
  unfold fX19_arriveAll_125b
  exact zp_d (fun a1 => zp_i (zp_i (pX19_arriveAll_204 hK2 h) (zp_c (pX19_drop  h) (fun _ z5 h1 => pX19_arriveAll_204 hK2 h1))) (zp_i (pX19_arriveAll_154 hK2 hK125 h) (zp_i (pX19_arriveAll_186 hK2 hK125 h) (zp_i (pX19_arriveAll_186 hK2 hK125 h) (pX19_arriveAll_154 hK2 hK125 h)))))
theorem pX19_arriveAll_125 {z0 : St} {N : Nat} {K2 : Nat → Int32 → St → Option (Int32 × St)} (hK2 : ∀ a0 a1 a2, zEq zClP z0 a2 → zPr zClP z0 (K2 a0 a1 a2)) : ∀ (n : Nat) (y0 : Nat) (y1 : Int32) (y2 : Int32) (y3 : Int32) (y4 : Int32) (y5 : Int32) (y6 : Int32) (y7 : Option Nat) (y8 : Int32) (z : St), zEq zClP z0 z → zPr zClP z0 (fX19_arriveAll_125 N K2 n y0 y1 y2 y3 y4 y5 y6 y7 y8 z) := by
  intro n
  induction n with
  | zero => intro y0 y1 y2 y3 y4 y5 y6 y7 y8 z h; exact zp_n
  | succ n ih => intro y0 y1 y2 y3 y4 y5 y6 y7 y8 z h; exact pX19_arriveAll_125b hK2 (fun _ _ _ _ _ _ _ _ _ _ h => ih _ _ _ _ _ _ _ _ _ _ h) h
theorem pX19_arriveAll_2b {z0 z : St} {N : Nat} {K2 : Nat → Int32 → St → Option (Int32 × St)} {x0 : Nat} {x1 : Int32} (hK2 : ∀ a0 a1 a2, zEq zClP z0 a2 → zPr zClP z0 (K2 a0 a1 a2)) (h : zEq zClP z0 z) : zPr zClP z0 (fX19_arriveAll_2b N K2 x0 x1 z) := by
  unfold fX19_arriveAll_2b
  exact zp_i (zp_s h) (zp_k (zp_i (zp_k (zp_l (fun v5 => zp_k (zp_l (fun v7 => zp_k (zp_l (fun v9 => zp_k (zp_l (fun v11 => zp_k (zp_l (fun v13 => zp_k (zp_l (fun v15 => zp_c (pX19_takeFrame  h) (fun _ z17 h1 => zp_k (zp_l (fun y21 => pX19_arriveAll_125 hK2 _ _ _ _ _ _ _ _ _ _ _ h1)))))))))))))))) (zp_l (fun v22 => hK2 _ _ _ h))))
theorem pX19_arriveAll_2 {z0 : St} {N : Nat} : ∀ (n : Nat) (y0 : Nat) (y1 : Int32) (z : St), zEq zClP z0 z → zPr zClP z0 (fX19_arriveAll_2 N n y0 y1 z) := by
  intro n
  induction n with
  | zero => intro y0 y1 z h; exact zp_n
  | succ n ih => intro y0 y1 z h; exact pX19_arriveAll_2b  (fun _ _ _ h => ih _ _ _ h) h
theorem pX19_arriveAll {z0 z : St} {N : Nat} {x0 : Nat} (h : zEq zClP z0 z) : zPr zClP z0 (fX19_arriveAll N x0 z) := by
  unfold fX19_arriveAll
  exact pX19_arriveAll_2  _ _ _ _ h
theorem pX19_neighbours_74 {z0 z : St} {N : Nat} {K2 : Nat → Int32 → Int32 → St → Option (Int32 × St)} {x0 : Nat} {x1 : Int32} {x2 : Int32} {x3 : Option Nat} {s0 : Nat} {s1 : Int32} (hK2 : ∀ a0 a1 a2 a3, zEq zClP z0 a3 → zPr zClP z0 (K2 a0 a1 a2 a3)) (h : zEq zClP z0 z) : zPr zClP z0 (fX19_neighbours_74 N K2 x0 x1 x2 x3 s0 s1 z) := by
  unfold fX19_neighbours_74
  exact zp_q (zp_lI h rfl (fun z1 h1 => zp_d (fun a3 => zp_l (fun y4 => zp_d (fun a5 => zp_q (zp_lI h1 rfl (fun z6 h2 => zp_l (fun v8 => hK2 _ _ _ _ h2))))))))
theorem pX19_neighbours_69 {z0 z : St} {N : Nat} {K2 : Nat → Int32 → Int32 → St → Option (Int32 × St)} {x0 : Nat} {x1 : Int32} {x2 : Int32} {x3 : Option Nat} {s0 : Nat} (hK2 : ∀ a0 a1 a2 a3, zEq zClP z0 a3 → zPr zClP z0 (K2 a0 a1 a2 a3)) (h : zEq zClP z0 z) : zPr zClP z0 (fX19_neighbours_69 N K2 x0 x1 x2 x3 s0 z) := by
  unfold fX19_neighbours_69
  exact pX19_neighbours_74 hK2 h
theorem pX19_neighbours_44 {z0 z : St} {N : Nat} {K2 : Nat → Int32 → Int32 → St → Option (Int32 × St)} {x0 : Nat} {x1 : Int32} {x2 : Int32} {x3 : Option Nat} {s0 : Nat} {s1 : Int32} (hK2 : ∀ a0 a1 a2 a3, zEq zClP z0 a3 → zPr zClP z0 (K2 a0 a1 a2 a3)) (h : zEq zClP z0 z) : zPr zClP z0 (fX19_neighbours_44 N K2 x0 x1 x2 x3 s0 s1 z) := by
  unfold fX19_neighbours_44
  exact zp_q (zp_lI h rfl (fun z1 h1 => zp_i (pX19_neighbours_69 hK2 h1) (zp_d (fun a4 => zp_l (fun y5 => zp_d (fun a6 => zp_i (pX19_neighbours_74 hK2 h1) (pX19_neighbours_69 hK2 h1)))))))
theorem pX19_neighbours_39 {z0 z : St} {N : Nat} {K2 : Nat → Int32 → Int32 → St → Option (Int32 × St)} {x0 : Nat} {x1 : Int32} {x2 : Int32} {x3 : Option Nat} {s0 : Nat} (hK2 : ∀ a0 a1 a2 a3, zEq zClP z0 a3 → zPr zClP z0 (K2 a0 a1 a2 a3)) (h : zEq zClP z0 z) : zPr zClP z0 (fX19_neighbours_39 N K2 x0 x1 x2 x3 s0 z) := by
  unfold fX19_neighbours_39
  exact pX19_neighbours_44 hK2 h
theorem pX19_neighbours_202 {z0 z : St} {N : Nat} {K96 : Nat → Int32 → Int32 → St → Option (Int32 × St)} {x0 : Nat} {x1 : Int32} {x2 : Int32} (hK96 : ∀ a0 a1 a2 a3, zEq zClP z0 a3 → zPr zClP z0 (K96 a0 a1 a2 a3)) (h : zEq zClP z0 z) : zPr zClP z0 (fX19_neighbours_202 N K96 x0 x1 x2 z) := by
  unfold fX19_neighbours_202
  exact hK96 _ _ _ _ h
theorem pX19_neighbours_150b {z0 z : St} {N : Nat} {K96 : Nat → Int32 → Int32 → St → Option (Int32 × St)} {K150 : Nat → Int32 → Int32 → Nat → Int32 → St → Option (Int32 × St)} {x0 : Nat} {x1 : Int32} {x2 : Int32} {x3 : Nat} {x4 : Int32} (hK96 : ∀ a0 a1 a2 a3, zEq zClP z0 a3 → zPr zClP z0 (K96 a0 a1 a2 a3)) (hK150 : ∀ a0 a1 a2 a3 a4 a5, zEq zClP z0 a5 → zPr zClP z0 (K150 a0 a1 a2 a3 a4 a5)) (h : zEq zClP z0 z) : zPr zClP z0 (fX19_neighbours_150b N K96 K150 x0 x1 x2 x3 x4 z) := by
  unfold fX19_neighbours_150b
  exact zp_i (zp_k (zp_lQ h rfl (fun z3 h1 => zp_lI h1 rfl (fun z4 h2 => pX19_neighbours_202 hK96 h2)))) (zp_k (zp_l (fun y6 => zp_k (zp_lQ h rfl (fun z8 h3 => zp_l (fun v9 => hK150 _ _ _ _ _ _ h3))))))
theorem pX19_neighbours_150 {z0 : St} {N : Nat} {K96 : Nat → Int32 → Int32 → St → Option (Int32 × St)} (hK96 : ∀ a0 a1 a2 a3, zEq zClP z0 a3 → zPr zClP z0 (K96 a0 a1 a2 a3)) : ∀ (n : Nat) (y0 : Nat) (y1 : Int32) (y2 : Int32) (y3 : Nat) (y4 : Int32) (z : St), zEq zClP z0 z → zPr zClP z0 (fX19_neighbours_150 N K96 n y0 y1 y2 y3 y4 z) := by
  intro n
  induction n with
  | zero => intro y0 y1 y2 y3 y4 z h; exact zp_n
  | succ n ih => intro y0 y1 y2 y3 y4 z h; exact pX19_neighbours_150b hK96 (fun _ _ _ _ _ _ h => ih _ _ _ _ _ _ h) h
theorem pX19_neighbours_137 {z0 z : St} {N : Nat} {K96 : Nat → Int32 → Int32 → St → Option (Int32 × St)} {x0 : Nat} {x1 : Int32} {x2 : Int32} {x3 : Nat} (hK96 : ∀ a0 a1 a2 a3, zEq zClP z0 a3 → zPr zClP z0 (K96 a0 a1 a2 a3)) (h : zEq zClP z0 z) : zPr zClP z0 (fX19_neighbours_137 N K96 x0 x1 x2 x3 z) := by
  unfold fX19_neighbours_137
  exact zp_lI h rfl (fun z1 h1 => pX19_neighbours_150 hK96 _ _ _ _ _ _ _ h1)
theorem pX19_neighbours_96b {z0 z : St} {N : Nat} {K96 : Nat → Int32 → Int32 → St → Option (Int32 × St)} {x0 : Nat} {x1 : Int32} {x2 : Int32} (hK96 : ∀ a0 a1 a2 a3, zEq zClP z0 a3 → zPr zClP z0 (K96 a0 a1 a2 a3)) (h : zEq zClP z0 z) : zPr zClP z0 (fX19_neighbours_96b N K96 x0 x1 x2 z) := by
  unfold fX19_neighbours_96b
  exact zp_i (zp_s h) (zp_k (zp_l (fun y3 => zp_d (fun a4 => zp_k (zp_l (fun y6 => zp_d (fun a7 => zp_i (pX19_neighbours_137 hK96 h) (zp_i (zp_l (fun v10 => pX19_neighbours_202 hK96 h)) (pX19_neighbours_137 hK96 h)))))))))
theorem pX19_neighbours_96 {z0 : St} {N : Nat} : ∀ (n : Nat) (y0 : Nat) (y1 : Int32) (y2 : Int32) (z : St), zEq zClP z0 z → zPr zClP z0 (fX19_neighbours_96 N n y0 y1 y2 z) := by
  intro n
  induction n with
  | zero => intro y0 y1 y2 z h; exact zp_n
  | succ n ih => intro y0 y1 y2 z h; exact pX19_neighbours_96b  (fun _ _ _ _ h => ih _ _ _ _ h) h
theorem pX19_neighbours_2b {z0 z : St} {N : Nat} {K2 : Nat → Int32 → Int32 → St → Option (Int32 × St)} {x0 : Nat} {x1 : Int32} {x2 : Int32} (hK2 : ∀ a0 a1 a2 a3, zEq zClP z0 a3 → zPr zClP z0 (K2 a0 a1 a2 a3)) (h : zEq zClP z0 z) : zPr zClP z0 (fX19_neighbours_2b N K2 x0 x1 x2 z) := by
  unfold fX19_neighbours_2b
  exact zp_i (pX19_neighbours_96  _ _ _ _ _ h) (zp_k (zp_l (fun y3 => zp_i (pX19_neighbours_39 hK2 h) (zp_d (fun a5 => zp_l (fun y6 => zp_d (fun a7 => zp_i (pX19_neighbours_44 hK2 h) (pX19_neighbours_39 hK2 h))))))))
theorem pX19_neighbours_2 {z0 : St} {N : Nat} : ∀ (n : Nat) (y0 : Nat) (y1 : Int32) (y2 : Int32) (z : St), zEq zClP z0 z → zPr zClP z0 (fX19_neighbours_2 N n y0 y1 y2 z) := by
  intro n
  induction n with
  | zero => intro y0 y1 y2 z h; exact zp_n
  | succ n ih => intro y0 y1 y2 z h; exact pX19_neighbours_2b  (fun _ _ _ _ h => ih _ _ _ _ h) h
theorem pX19_neighbours {z0 z : St} {N : Nat} {x0 : Nat} {x1 : Int32} (h : zEq zClP z0 z) : zPr zClP z0 (fX19_neighbours N x0 x1 z) := by
  unfold fX19_neighbours
  exact pX19_neighbours_2  _ _ _ _ _ h
theorem pX19_base_85 {z0 z : St} {N : Nat} {K2 : Nat → Nat → Int32 → St → Option (Int32 × St)} {x0 : Nat} {x1 : Nat} {x2 : Int32} (hK2 : ∀ a0 a1 a2 a3, zEq zClP z0 a3 → zPr zClP z0 (K2 a0 a1 a2 a3)) (h : zEq zClP z0 z) : zPr zClP z0 (fX19_base_85 N K2 x0 x1 x2 z) := by
  unfold fX19_base_85
  exact zp_l (fun v1 => hK2 _ _ _ _ h)
theorem pX19_base_59b {z0 z : St} {N : Nat} {K2 : Nat → Nat → Int32 → St → Option (Int32 × St)} {K59 : Nat → Nat → Int32 → Int32 → St → Option (Int32 × St)} {x0 : Nat} {x1 : Nat} {x2 : Int32} {x3 : Int32} (hK2 : ∀ a0 a1 a2 a3, zEq zClP z0 a3 → zPr zClP z0 (K2 a0 a1 a2 a3)) (hK59 : ∀ a0 a1 a2 a3 a4, zEq zClP z0 a4 → zPr zClP z0 (K59 a0 a1 a2 a3 a4)) (h : zEq zClP z0 z) : zPr zClP z0 (fX19_base_59b N K2 K59 x0 x1 x2 x3 z) := by
  unfold fX19_base_59b
  exact zp_i (pX19_base_85 hK2 h) (zp_k (zp_l (fun y3 => zp_d (fun a4 => zp_k (zp_lA h rfl (fun z6 h1 => zp_l (fun v7 => hK59 _ _ _ _ _ h1)))))))
theorem pX19_base_59 {z0 : St} {N : Nat} {K2 : Nat → Nat → Int32 → St → Option (Int32 × St)} (hK2 : ∀ a0 a1 a2 a3, zEq zClP z0 a3 → zPr zClP z0 (K2 a0 a1 a2 a3)) : ∀ (n : Nat) (y0 : Nat) (y1 : Nat) (y2 : Int32) (y3 : Int32) (z : St), zEq zClP z0 z → zPr zClP z0 (fX19_base_59 N K2 n y0 y1 y2 y3 z) := by
  intro n
  induction n with
  | zero => intro y0 y1 y2 y3 z h; exact zp_n
  | succ n ih => intro y0 y1 y2 y3 z h; exact pX19_base_59b hK2 (fun _ _ _ _ _ h => ih _ _ _ _ _ h) h
theorem pX19_base_2b {z0 z : St} {N : Nat} {K2 : Nat → Nat → Int32 → St → Option (Int32 × St)} {x0 : Nat} {x1 : Nat} {x2 : Int32} (hK2 : ∀ a0 a1 a2 a3, zEq zClP z0 a3 → zPr zClP z0 (K2 a0 a1 a2 a3)) (h : zEq zClP z0 z) : zPr zClP z0 (fX19_base_2b N K2 x0 x1 x2 z) := by
  unfold fX19_base_2b
  exact zp_i (zp_s h) (zp_k (zp_i (pX19_base_85 hK2 h) (zp_k (zp_i (pX19_base_85 hK2 h) (zp_k (zp_c (pX19_dropAdvert  h) (fun _ z8 h1 => zp_k (zp_lA h1 rfl (fun z12 h2 => zp_lI h2 rfl (fun z13 h3 => pX19_base_59 hK2 _ _ _ _ _ _ h3))))))))))
theorem pX19_base_2 {z0 : St} {N : Nat} : ∀ (n : Nat) (y0 : Nat) (y1 : Nat) (y2 : Int32) (z : St), zEq zClP z0 z → zPr zClP z0 (fX19_base_2 N n y0 y1 y2 z) := by
  intro n
  induction n with
  | zero => intro y0 y1 y2 z h; exact zp_n
  | succ n ih => intro y0 y1 y2 z h; exact pX19_base_2b  (fun _ _ _ _ h => ih _ _ _ _ h) h
theorem pX19_base {z0 z : St} {N : Nat} {x0 : Nat} {x1 : Nat} (h : zEq zClP z0 z) : zPr zClP z0 (fX19_base N x0 x1 z) := by
  unfold fX19_base
  exact pX19_base_2  _ _ _ _ _ h
theorem pX19_insert_75 {z0 z : St} {N : Nat} {K26 : Nat → Int32 → Int32 → Int32 → Int32 → Int32 → St → Option (Int32 × St)} {x0 : Nat} {x4 : Int32} {x5 : Int32} {x6 : Int32} {x7 : Int32} {x8 : Int32} (hK26 : ∀ a0 a1 a2 a3 a4 a5 a6, zEq zClP z0 a6 → zPr zClP z0 (K26 a0 a1 a2 a3 a4 a5 a6)) (h : zEq zClP z0 z) : zPr zClP z0 (fX19_insert_75 N K26 x0 x4 x5 x6 x7 x8 z) := by
  unfold fX19_insert_75
  exact zp_k (zp_k (zp_lA h rfl (fun z3 h1 => zp_k (zp_k (zp_lA h1 rfl (fun z6 h2 => zp_k (zp_k (zp_lA h2 rfl (fun z9 h3 => zp_l (fun v10 => hK26 _ _ _ _ _ _ _ h3))))))))))
theorem pX19_insert_133 {z0 z : St} {N : Nat} {x0 : Nat} {x4 : Int32} {x5 : Int32} {x6 : Int32} {x7 : Int32} (h : zEq zClP z0 z) : zPr zClP z0 (fX19_insert_133 N x0 x4 x5 x6 x7 z) := by
  unfold fX19_insert_133
  exact zp_k (zp_lA h rfl (fun z2 h1 => zp_k (zp_lA h1 rfl (fun z4 h2 => zp_k (zp_lA h2 rfl (fun z6 h3 => zp_s h3))))))
theorem pX19_insert_26b {z0 z : St} {N : Nat} {K26 : Nat → Int32 → Int32 → Int32 → Int32 → Int32 → St → Option (Int32 × St)} {x0 : Nat} {x4 : Int32} {x5 : Int32} {x6 : Int32} {x7 : Int32} {x8 : Int32} (hK26 : ∀ a0 a1 a2 a3 a4 a5 a6, zEq zClP z0 a6 → zPr zClP z0 (K26 a0 a1 a2 a3 a4 a5 a6)) (h : zEq zClP z0 z) : zPr zClP z0 (fX19_insert_26b N K26 x0 x4 x5 x6 x7 x8 z) := by
  unfold fX19_insert_26b
  exact zp_i (pX19_insert_133  h) (zp_k (zp_i (pX19_insert_75 hK26 h) (zp_k (zp_i (pX19_insert_133  h) (zp_k (zp_i (pX19_insert_133  h) (pX19_insert_75 hK26 h)))))))
theorem pX19_insert_26 {z0 : St} {N : Nat} : ∀ (n : Nat) (y0 : Nat) (y1 : Int32) (y2 : Int32) (y3 : Int32) (y4 : Int32) (y5 : Int32) (z : St), zEq zClP z0 z → zPr zClP z0 (fX19_insert_26 N n y0 y1 y2 y3 y4 y5 z) := by
  intro n
  induction n with
  | zero => intro y0 y1 y2 y3 y4 y5 z h; exact zp_n
  | succ n ih => intro y0 y1 y2 y3 y4 y5 z h; exact pX19_insert_26b  (fun _ _ _ _ _ _ _ h => ih _ _ _ _ _ _ _ h) h
theorem pX19_insert {z0 z : St} {N : Nat} {x0 : Nat} {x1 : Int32} {x2 : Int32} {x3 : Int32} {x4 : Int32} {x5 : Int32} {x6 : Int32} (h : zEq zClP z0 z) : zPr zClP z0 (fX19_insert N x0 x1 x2 x3 x4 x5 x6 z) := by
  unfold fX19_insert
  exact zp_l (fun v1 => zp_l (fun v2 => pX19_insert_26  _ _ _ _ _ _ _ _ h))
theorem pX19_wouldTell_64 {z0 z : St} {N : Nat} {K14 : Nat → Nat → Int32 → Int32 → Int32 → St → Option (Int32 × St)} {x0 : Nat} {x1 : Nat} {x2 : Int32} {x3 : Int32} {x4 : Int32} (hK14 : ∀ a0 a1 a2 a3 a4 a5, zEq zClP z0 a5 → zPr zClP z0 (K14 a0 a1 a2 a3 a4 a5)) (h : zEq zClP z0 z) : zPr zClP z0 (fX19_wouldTell_64 N K14 x0 x1 x2 x3 x4 z) := by
  unfold fX19_wouldTell_64
  exact zp_l (fun v1 => hK14 _ _ _ _ _ _ h)
theorem pX19_wouldTell_151 {z0 z : St} {N : Nat} {K76 : Nat → Nat → Int32 → Int32 → Int32 → Int32 → St → Option (Int32 × St)} {x0 : Nat} {x1 : Nat} {x2 : Int32} {x3 : Int32} {x4 : Int32} {x5 : Int32} (hK76 : ∀ a0 a1 a2 a3 a4 a5 a6, zEq zClP z0 a6 → zPr zClP z0 (K76 a0 a1 a2 a3 a4 a5 a6)) (h : zEq zClP z0 z) : zPr zClP z0 (fX19_wouldTell_151 N K76 x0 x1 x2 x3 x4 x5 z) := by
  unfold fX19_wouldTell_151
  exact zp_l (fun v1 => hK76 _ _ _ _ _ _ _ h)
theorem pX19_wouldTell_76b {z0 z : St} {N : Nat} {K76 : Nat → Nat → Int32 → Int32 → Int32 → Int32 → St → Option (Int32 × St)} {x0 : Nat} {x1 : Nat} {x2 : Int32} {x3 : Int32} {x4 : Int32} {x5 : Int32} (hK76 : ∀ a0 a1 a2 a3 a4 a5 a6, zEq zClP z0 a6 → zPr zClP z0 (K76 a0 a1 a2 a3 a4 a5 a6)) (h : zEq zClP z0 z) : zPr zClP z0 (fX19_wouldTell_76b N K76 x0 x1 x2 x3 x4 x5 z) := by
  unfold fX19_wouldTell_76b
  exact zp_i (zp_k (zp_lA h rfl (fun z3 h1 => zp_k (zp_lA h1 rfl (fun z5 h2 => zp_s h2))))) (zp_k (zp_l (fun y7 => zp_d (fun a8 => zp_k (zp_l (fun y10 => zp_i (pX19_wouldTell_151 hK76 h) (zp_d (fun a12 => zp_i (pX19_wouldTell_151 hK76 h) (zp_l (fun y14 => zp_d (fun a15 => zp_c (pX19_insert  h) (fun _ z17 h3 => zp_l (fun v20 => pX19_wouldTell_151 hK76 h3)))))))))))))
theorem pX19_wouldTell_76 {z0 : St} {N : Nat} : ∀ (n : Nat) (y0 : Nat) (y1 : Nat) (y2 : Int32) (y3 : Int32) (y4 : Int32) (y5 : Int32) (z : St), zEq zClP z0 z → zPr zClP z0 (fX19_wouldTell_76 N n y0 y1 y2 y3 y4 y5 z) := by
  intro n
  induction n with
  | zero => intro y0 y1 y2 y3 y4 y5 z h; exact zp_n
  | succ n ih => intro y0 y1 y2 y3 y4 y5 z h; exact pX19_wouldTell_76b  (fun _ _ _ _ _ _ _ h => ih _ _ _ _ _ _ _ h) h
theorem pX19_wouldTell_14b {z0 z : St} {N : Nat} {K14 : Nat → Nat → Int32 → Int32 → Int32 → St → Option (Int32 × St)} {x0 : Nat} {x1 : Nat} {x2 : Int32} {x3 : Int32} {x4 : Int32} (hK14 : ∀ a0 a1 a2 a3 a4 a5, zEq zClP z0 a5 → zPr zClP z0 (K14 a0 a1 a2 a3 a4 a5)) (h : zEq zClP z0 z) : zPr zClP z0 (fX19_wouldTell_14b N K14 x0 x1 x2 x3 x4 z) := by
  unfold fX19_wouldTell_14b
  exact zp_i (pX19_wouldTell_76  _ _ _ _ _ _ _ _ h) (zp_k (zp_l (fun y3 => zp_d (fun a4 => zp_i (pX19_wouldTell_64 hK14 h) (zp_l (fun y6 => zp_d (fun a7 => zp_c (pX19_insert  h) (fun _ z9 h1 => zp_l (fun v12 => pX19_wouldTell_64 hK14 h1)))))))))
theorem pX19_wouldTell_14 {z0 : St} {N : Nat} : ∀ (n : Nat) (y0 : Nat) (y1 : Nat) (y2 : Int32) (y3 : Int32) (y4 : Int32) (z : St), zEq zClP z0 z → zPr zClP z0 (fX19_wouldTell_14 N n y0 y1 y2 y3 y4 z) := by
  intro n
  induction n with
  | zero => intro y0 y1 y2 y3 y4 z h; exact zp_n
  | succ n ih => intro y0 y1 y2 y3 y4 z h; exact pX19_wouldTell_14b  (fun _ _ _ _ _ _ h => ih _ _ _ _ _ _ h) h
theorem pX19_wouldTell {z0 z : St} {N : Nat} {x0 : Nat} {x1 : Nat} (h : zEq zClP z0 z) : zPr zClP z0 (fX19_wouldTell N x0 x1 z) := by
  unfold fX19_wouldTell
  exact zp_c (pX19_newAdvert  h) (fun r1 z2 h1 => pX19_wouldTell_14  _ _ _ _ _ _ _ h1)
theorem pX19_ownAdvert_169 {z0 z : St} {N : Nat} {x0 : Nat} {x1 : Nat} {x4 : Int32} {s0 : Nat} {s1 : Int32} (h : zEq zClP z0 z) : zPr zClP z0 (fX19_ownAdvert_169 N x0 x1 x4 s0 s1 z) := by
  unfold fX19_ownAdvert_169
  exact zp_lI h rfl (fun z1 h1 => zp_k (zp_lA h1 rfl (fun z3 h2 => zp_lI h2 rfl (fun z4 h3 => zp_c (pX19_take  h3) (fun _ z6 h4 => zp_s h4)))))
theorem pX19_ownAdvert_146 {z0 z : St} {N : Nat} {x0 : Nat} {x1 : Nat} {x4 : Int32} (h : zEq zClP z0 z) : zPr zClP z0 (fX19_ownAdvert_146 N x0 x1 x4 z) := by
  unfold fX19_ownAdvert_146
  exact zp_i (pX19_ownAdvert_169  h) (pX19_ownAdvert_169  h)
theorem pX19_ownAdvert_109 {z0 z : St} {N : Nat} {x0 : Nat} {x1 : Nat} {x2 : Int32} {x3 : Int32} {x4 : Int32} (h : zEq zClP z0 z) : zPr zClP z0 (fX19_ownAdvert_109 N x0 x1 x2 x3 x4 z) := by
  unfold fX19_ownAdvert_109
  exact zp_i (pX19_ownAdvert_146  h) (zp_c (pX19_tellAlike  h) (fun r2 z3 h1 => zp_i (pX19_ownAdvert_146  h1) (zp_i (pX19_ownAdvert_146  h1) (zp_i (pX19_ownAdvert_146  h1) (zp_c (pX19_dropAdvert  h1) (fun _ z10 h2 => zp_s h2))))))
theorem pX19_ownAdvert_74 {z0 z : St} {N : Nat} {x0 : Nat} {x1 : Nat} {x2 : Int32} {x3 : Int32} (h : zEq zClP z0 z) : zPr zClP z0 (fX19_ownAdvert_74 N x0 x1 x2 x3 z) := by
  unfold fX19_ownAdvert_74
  exact zp_lI h rfl (fun z1 h1 => zp_c (pX19_wouldTell  h1) (fun r2 z3 h2 => zp_i (pX19_ownAdvert_109  h2) (zp_c (pX19_ad  h2) (fun r7 z8 h3 => zp_k (zp_lA h3 rfl (fun z12 h4 => pX19_ownAdvert_109  h4))))))
theorem pX19_ownAdvert_45 {z0 z : St} {N : Nat} {x0 : Nat} {x1 : Nat} {x2 : Int32} {s0 : Int32} (h : zEq zClP z0 z) : zPr zClP z0 (fX19_ownAdvert_45 N x0 x1 x2 s0 z) := by
  unfold fX19_ownAdvert_45
  exact zp_i (pX19_ownAdvert_74  h) (zp_i (pX19_ownAdvert_74  h) (zp_i (pX19_ownAdvert_74  h) (zp_i (pX19_ownAdvert_74  h) (zp_s h))))
theorem pX19_ownAdvert {z0 z : St} {N : Nat} {x0 : Nat} {x1 : Nat} (h : zEq zClP z0 z) : zPr zClP z0 (fX19_ownAdvert N x0 x1 z) := by
  unfold fX19_ownAdvert
  exact zp_i (zp_k (zp_l (fun v3 => zp_i (pX19_ownAdvert_45  h) (pX19_ownAdvert_45  h)))) (zp_s h)
theorem pX19_greet_59 {z0 z : St} {N : Nat} {K16 : Nat → Nat → Int32 → Option Nat → Int32 → Int32 → Int32 → St → Option (Int32 × St)} {x0 : Nat} {x1 : Nat} {x2 : Int32} {x3 : Option Nat} {x4 : Int32} {x5 : Int32} {x6 : Int32} (hK16 : ∀ a0 a1 a2 a3 a4 a5 a6 a7, zEq zClP z0 a7 → zPr zClP z0 (K16 a0 a1 a2 a3 a4 a5 a6 a7)) (h : zEq zClP z0 z) : zPr zClP z0 (fX19_greet_59 N K16 x0 x1 x2 x3 x4 x5 x6 z) := by
  unfold fX19_greet_59
  exact zp_l (fun v1 => hK16 _ _ _ _ _ _ _ _ h)
theorem pX19_greet_16b {z0 z : St} {N : Nat} {K16 : Nat → Nat → Int32 → Option Nat → Int32 → Int32 → Int32 → St → Option (Int32 × St)} {x0 : Nat} {x1 : Nat} {x2 : Int32} {x3 : Option Nat} {x4 : Int32} {x5 : Int32} {x6 : Int32} (hK16 : ∀ a0 a1 a2 a3 a4 a5 a6 a7, zEq zClP z0 a7 → zPr zClP z0 (K16 a0 a1 a2 a3 a4 a5 a6 a7)) (h : zEq zClP z0 z) : zPr zClP z0 (fX19_greet_16b N K16 x0 x1 x2 x3 x4 x5 x6 z) := by
  unfold fX19_greet_16b
  exact zp_i (zp_d (fun a2 => zp_c (pX18_address  h) (fun r3 z4 h1 => zp_c (pX19_make  h1) (fun r7 z8 h2 => zp_c (pX19_set  h2) (fun _ z12 h3 => zp_c (pX19_set  h3) (fun _ z16 h4 => zp_c (pX19_carry  h4) (fun _ z20 h5 => zp_c (pX19_drop  h5) (fun _ z24 h6 => zp_s h6)))))))) (zp_k (zp_l (fun y28 => zp_d (fun a29 => zp_i (pX19_greet_59 hK16 h) (zp_k (zp_l (fun y32 => zp_d (fun a33 => zp_l (fun v34 => zp_l (fun v35 => pX19_greet_59 hK16 h))))))))))
theorem pX19_greet_16 {z0 : St} {N : Nat} : ∀ (n : Nat) (y0 : Nat) (y1 : Nat) (y2 : Int32) (y3 : Option Nat) (y4 : Int32) (y5 : Int32) (y6 : Int32) (z : St), zEq zClP z0 z → zPr zClP z0 (fX19_greet_16 N n y0 y1 y2 y3 y4 y5 y6 z) := by
  intro n
  induction n with
  | zero => intro y0 y1 y2 y3 y4 y5 y6 z h; exact zp_n
  | succ n ih => intro y0 y1 y2 y3 y4 y5 y6 z h; exact pX19_greet_16b  (fun _ _ _ _ _ _ _ _ h => ih _ _ _ _ _ _ _ _ h) h
theorem pX19_greet {z0 z : St} {N : Nat} {x0 : Nat} {x1 : Nat} {x2 : Int32} (h : zEq zClP z0 z) : zPr zClP z0 (fX19_greet N x0 x1 x2 z) := by
  unfold fX19_greet
  exact zp_k (zp_l (fun y2 => pX19_greet_16  _ _ _ _ _ _ _ _ _ h))
theorem pX19_tellAdvert {z0 z : St} {N : Nat} {x0 : Nat} {x1 : Nat} {x2 : Nat} {x3 : Int32} (h : zEq zClP z0 z) : zPr zClP z0 (fX19_tellAdvert N x0 x1 x2 x3 z) := by
  unfold fX19_tellAdvert
  exact zp_k (zp_l (fun y2 => zp_k (zp_l (fun y4 => zp_d (fun a5 => zp_l (fun y6 => zp_d (fun a7 => zp_d (fun a8 => zp_c (pX19_stationOf  h) (fun r9 z10 h1 => zp_c (pX19_ad  h1) (fun r13 z14 h2 => zp_c (pX19_ad  h2) (fun r17 z18 h3 => zp_c (pX18_address  h3) (fun r21 z22 h4 => zp_l (fun y25 => zp_d (fun a26 => zp_k (zp_l (fun y28 => zp_d (fun a29 => zp_c (pX18_address  h4) (fun r30 z31 h5 => zp_c (pX19_make  h5) (fun r34 z35 h6 => zp_c (pX19_set  h6) (fun _ z39 h7 => zp_c (pX19_set  h7) (fun _ z43 h8 => zp_k (zp_k (zp_lA h8 rfl (fun z48 h9 => zp_c (pX19_deliver  h9) (fun _ z50 h10 => zp_c (pX19_drop  h10) (fun _ z54 h11 => zp_s h11))))))))))))))))))))))))))
theorem pX19_routerSpeaks_38 {z0 z : St} {N : Nat} {K2 : Nat → Nat → Int32 → St → Option (Int32 × St)} {x0 : Nat} {x1 : Nat} {x2 : Int32} (hK2 : ∀ a0 a1 a2 a3, zEq zClP z0 a3 → zPr zClP z0 (K2 a0 a1 a2 a3)) (h : zEq zClP z0 z) : zPr zClP z0 (fX19_routerSpeaks_38 N K2 x0 x1 x2 z) := by
  unfold fX19_routerSpeaks_38
  exact zp_l (fun v1 => hK2 _ _ _ _ h)
theorem pX19_routerSpeaks_255 {z0 z : St} {N : Nat} {K155 : Nat → Nat → Int32 → St → Option (Int32 × St)} {K174 : Nat → Nat → Int32 → Option Nat → Int32 → St → Option (Int32 × St)} {x0 : Nat} {x1 : Nat} {x3 : Int32} {x4 : Nat} {x5 : Int32} (hK155 : ∀ a0 a1 a2 a3, zEq zClP z0 a3 → zPr zClP z0 (K155 a0 a1 a2 a3)) (hK174 : ∀ a0 a1 a2 a3 a4 a5, zEq zClP z0 a5 → zPr zClP z0 (K174 a0 a1 a2 a3 a4 a5)) (h : zEq zClP z0 z) : zPr zClP z0 (fX19_routerSpeaks_255 N K155 K174 x0 x1 x3 x4 x5 z) := by
  unfold fX19_routerSpeaks_255
  exact zp_l (fun v1 => hK174 _ _ _ _ _ _ h)
theorem pX19_routerSpeaks_261 {z0 z : St} {N : Nat} {K155 : Nat → Nat → Int32 → St → Option (Int32 × St)} {x0 : Nat} {x1 : Nat} {x3 : Int32} (hK155 : ∀ a0 a1 a2 a3, zEq zClP z0 a3 → zPr zClP z0 (K155 a0 a1 a2 a3)) (h : zEq zClP z0 z) : zPr zClP z0 (fX19_routerSpeaks_261 N K155 x0 x1 x3 z) := by
  unfold fX19_routerSpeaks_261
  exact zp_l (fun v1 => hK155 _ _ _ _ h)
theorem pX19_routerSpeaks_174b {z0 z : St} {N : Nat} {K155 : Nat → Nat → Int32 → St → Option (Int32 × St)} {K174 : Nat → Nat → Int32 → Option Nat → Int32 → St → Option (Int32 × St)} {x0 : Nat} {x1 : Nat} {x3 : Int32} {x4 : Option Nat} {x5 : Int32} (hK155 : ∀ a0 a1 a2 a3, zEq zClP z0 a3 → zPr zClP z0 (K155 a0 a1 a2 a3)) (hK174 : ∀ a0 a1 a2 a3 a4 a5, zEq zClP z0 a5 → zPr zClP z0 (K174 a0 a1 a2 a3 a4 a5)) (h : zEq zClP z0 z) : zPr zClP z0 (fX19_routerSpeaks_174b N K155 K174 x0 x1 x3 x4 x5 z) := by
  unfold fX19_routerSpeaks_174b
  exact zp_d (fun a1 => zp_i (pX19_routerSpeaks_261 hK155 h) (zp_i (pX19_routerSpeaks_261 hK155 h) (zp_k (zp_i (pX19_routerSpeaks_255 hK155 hK174 h) (zp_k (zp_i (pX19_routerSpeaks_255 hK155 hK174 h) (zp_k (zp_i (pX19_routerSpeaks_255 hK155 hK174 h) (zp_k (zp_lA h rfl (fun z11 h1 => zp_k (zp_c (pX19_tellAdvert  h1) (fun _ z14 h2 => pX19_routerSpeaks_255 hK155 hK174 h2)))))))))))))
theorem pX19_routerSpeaks_174 {z0 : St} {N : Nat} {K155 : Nat → Nat → Int32 → St → Option (Int32 × St)} (hK155 : ∀ a0 a1 a2 a3, zEq zClP z0 a3 → zPr zClP z0 (K155 a0 a1 a2 a3)) : ∀ (n : Nat) (y0 : Nat) (y1 : Nat) (y2 : Int32) (y3 : Option Nat) (y4 : Int32) (z : St), zEq zClP z0 z → zPr zClP z0 (fX19_routerSpeaks_174 N K155 n y0 y1 y2 y3 y4 z) := by
  intro n
  induction n with
  | zero => intro y0 y1 y2 y3 y4 z h; exact zp_n
  | succ n ih => intro y0 y1 y2 y3 y4 z h; exact pX19_routerSpeaks_174b hK155 (fun _ _ _ _ _ _ h => ih _ _ _ _ _ _ h) h
theorem pX19_routerSpeaks_155b {z0 z : St} {N : Nat} {K155 : Nat → Nat → Int32 → St → Option (Int32 × St)} {x0 : Nat} {x1 : Nat} {x3 : Int32} (hK155 : ∀ a0 a1 a2 a3, zEq zClP z0 a3 → zPr zClP z0 (K155 a0 a1 a2 a3)) (h : zEq zClP z0 z) : zPr zClP z0 (fX19_routerSpeaks_155b N K155 x0 x1 x3 z) := by
  unfold fX19_routerSpeaks_155b
  exact zp_i (zp_s h) (zp_k (zp_l (fun y3 => pX19_routerSpeaks_174 hK155 _ _ _ _ _ _ _ h)))
theorem pX19_routerSpeaks_155 {z0 : St} {N : Nat} : ∀ (n : Nat) (y0 : Nat) (y1 : Nat) (y2 : Int32) (z : St), zEq zClP z0 z → zPr zClP z0 (fX19_routerSpeaks_155 N n y0 y1 y2 z) := by
  intro n
  induction n with
  | zero => intro y0 y1 y2 z h; exact zp_n
  | succ n ih => intro y0 y1 y2 z h; exact pX19_routerSpeaks_155b  (fun _ _ _ _ h => ih _ _ _ _ h) h
theorem pX19_routerSpeaks_51b {z0 z : St} {N : Nat} {K51 : Nat → Nat → Int32 → Int32 → St → Option (Int32 × St)} {x0 : Nat} {x1 : Nat} {x2 : Int32} {x3 : Int32} (hK51 : ∀ a0 a1 a2 a3 a4, zEq zClP z0 a4 → zPr zClP z0 (K51 a0 a1 a2 a3 a4)) (h : zEq zClP z0 z) : zPr zClP z0 (fX19_routerSpeaks_51b N K51 x0 x1 x2 x3 z) := by
  unfold fX19_routerSpeaks_51b
  exact zp_i (zp_lI h rfl (fun z2 h1 => pX19_routerSpeaks_155  _ _ _ _ _ h1)) (zp_k (zp_k (zp_l (fun y5 => zp_d (fun a6 => zp_c (pX18_address  h) (fun r7 z8 h2 => zp_k (zp_c (pX19_make  h2) (fun r12 z13 h3 => zp_c (pX19_set  h3) (fun _ z17 h4 => zp_k (zp_c (pX19_set  h4) (fun _ z22 h5 => zp_k (zp_c (pX19_deliver  h5) (fun _ z27 h6 => zp_c (pX19_drop  h6) (fun _ z31 h7 => zp_l (fun v34 => hK51 _ _ _ _ _ h7)))))))))))))))
theorem pX19_routerSpeaks_51 {z0 : St} {N : Nat} : ∀ (n : Nat) (y0 : Nat) (y1 : Nat) (y2 : Int32) (y3 : Int32) (z : St), zEq zClP z0 z → zPr zClP z0 (fX19_routerSpeaks_51 N n y0 y1 y2 y3 z) := by
  intro n
  induction n with
  | zero => intro y0 y1 y2 y3 z h; exact zp_n
  | succ n ih => intro y0 y1 y2 y3 z h; exact pX19_routerSpeaks_51b  (fun _ _ _ _ _ h => ih _ _ _ _ _ h) h
theorem pX19_routerSpeaks_44 {z0 z : St} {N : Nat} {x0 : Nat} {x1 : Nat} (h : zEq zClP z0 z) : zPr zClP z0 (fX19_routerSpeaks_44 N x0 x1 z) := by
  unfold fX19_routerSpeaks_44
  exact zp_l (fun v1 => pX19_routerSpeaks_51  _ _ _ _ _ _ h)
theorem pX19_routerSpeaks_2b {z0 z : St} {N : Nat} {K2 : Nat → Nat → Int32 → St → Option (Int32 × St)} {x0 : Nat} {x1 : Nat} {x2 : Int32} (hK2 : ∀ a0 a1 a2 a3, zEq zClP z0 a3 → zPr zClP z0 (K2 a0 a1 a2 a3)) (h : zEq zClP z0 z) : zPr zClP z0 (fX19_routerSpeaks_2b N K2 x0 x1 x2 z) := by
  unfold fX19_routerSpeaks_2b
  exact zp_i (pX19_routerSpeaks_44  h) (zp_i (pX19_routerSpeaks_44  h) (zp_k (zp_l (fun y4 => zp_d (fun a5 => zp_i (pX19_routerSpeaks_38 hK2 h) (zp_c (pX19_greet  h) (fun _ z8 h1 => pX19_routerSpeaks_38 hK2 h1)))))))
theorem pX19_routerSpeaks_2 {z0 : St} {N : Nat} : ∀ (n : Nat) (y0 : Nat) (y1 : Nat) (y2 : Int32) (z : St), zEq zClP z0 z → zPr zClP z0 (fX19_routerSpeaks_2 N n y0 y1 y2 z) := by
  intro n
  induction n with
  | zero => intro y0 y1 y2 z h; exact zp_n
  | succ n ih => intro y0 y1 y2 z h; exact pX19_routerSpeaks_2b  (fun _ _ _ _ h => ih _ _ _ _ h) h
theorem pX19_routerSpeaks {z0 z : St} {N : Nat} {x0 : Nat} {x1 : Nat} (h : zEq zClP z0 z) : zPr zClP z0 (fX19_routerSpeaks N x0 x1 z) := by
  unfold fX19_routerSpeaks
  exact pX19_routerSpeaks_2  _ _ _ _ _ h
theorem pX19_leastSums_32 {z0 z : St} {N : Nat} {K2 : Nat → Nat → Int32 → St → Option (Int32 × St)} {x0 : Nat} {x1 : Nat} {x2 : Int32} {s0 : Nat} {s1 : Int32} {s2 : Int32} (hK2 : ∀ a0 a1 a2 a3, zEq zClP z0 a3 → zPr zClP z0 (K2 a0 a1 a2 a3)) (h : zEq zClP z0 z) : zPr zClP z0 (fX19_leastSums_32 N K2 x0 x1 x2 s0 s1 s2 z) := by
  unfold fX19_leastSums_32
  exact zp_k (zp_lA h rfl (fun z2 h1 => zp_l (fun v3 => hK2 _ _ _ _ h1)))
theorem pX19_leastSums_159 {z0 z : St} {N : Nat} {K41 : Nat → Nat → Int32 → St → Option (Int32 × St)} {K57 : Nat → Nat → Int32 → Int32 → Int32 → St → Option (Int32 × St)} {x0 : Nat} {x1 : Nat} {x2 : Int32} {x3 : Int32} {x4 : Int32} (hK41 : ∀ a0 a1 a2 a3, zEq zClP z0 a3 → zPr zClP z0 (K41 a0 a1 a2 a3)) (hK57 : ∀ a0 a1 a2 a3 a4 a5, zEq zClP z0 a5 → zPr zClP z0 (K57 a0 a1 a2 a3 a4 a5)) (h : zEq zClP z0 z) : zPr zClP z0 (fX19_leastSums_159 N K41 K57 x0 x1 x2 x3 x4 z) := by
  unfold fX19_leastSums_159
  exact zp_l (fun v1 => hK57 _ _ _ _ _ _ h)
theorem pX19_leastSums_165 {z0 z : St} {N : Nat} {K41 : Nat → Nat → Int32 → St → Option (Int32 × St)} {x0 : Nat} {x1 : Nat} {x2 : Int32} (hK41 : ∀ a0 a1 a2 a3, zEq zClP z0 a3 → zPr zClP z0 (K41 a0 a1 a2 a3)) (h : zEq zClP z0 z) : zPr zClP z0 (fX19_leastSums_165 N K41 x0 x1 x2 z) := by
  unfold fX19_leastSums_165
  exact zp_l (fun v1 => hK41 _ _ _ _ h)
theorem pX19_leastSums_57b {z0 z : St} {N : Nat} {K41 : Nat → Nat → Int32 → St → Option (Int32 × St)} {K57 : Nat → Nat → Int32 → Int32 → Int32 → St → Option (Int32 × St)} {x0 : Nat} {x1 : Nat} {x2 : Int32} {x3 : Int32} {x4 : Int32} (hK41 : ∀ a0 a1 a2 a3, zEq zClP z0 a3 → zPr zClP z0 (K41 a0 a1 a2 a3)) (hK57 : ∀ a0 a1 a2 a3 a4 a5, zEq zClP z0 a5 → zPr zClP z0 (K57 a0 a1 a2 a3 a4 a5)) (h : zEq zClP z0 z) : zPr zClP z0 (fX19_leastSums_57b N K41 K57 x0 x1 x2 x3 x4 z) := by
  unfold fX19_leastSums_57b
  exact zp_i (pX19_leastSums_165 hK41 h) (zp_c (pX19_ad  h) (fun r2 z3 h1 => zp_i (pX19_leastSums_165 hK41 h1) (zp_c (pX19_friendRow  h1) (fun r7 z8 h2 => zp_c (pX19_friendRow  h2) (fun r11 z12 h3 => zp_k (zp_i (pX19_leastSums_159 hK41 hK57 h3) (zp_k (zp_c (pX19_friendRow  h3) (fun r18 z19 h4 => zp_c (pX19_costTo  h4) (fun r22 z23 h5 => zp_i (pX19_leastSums_159 hK41 hK57 h5) (zp_k (zp_i (pX19_leastSums_159 hK41 hK57 h5) (zp_k (zp_lA h5 rfl (fun z30 h6 => pX19_leastSums_159 hK41 hK57 h6)))))))))))))))
theorem pX19_leastSums_57 {z0 : St} {N : Nat} {K41 : Nat → Nat → Int32 → St → Option (Int32 × St)} (hK41 : ∀ a0 a1 a2 a3, zEq zClP z0 a3 → zPr zClP z0 (K41 a0 a1 a2 a3)) : ∀ (n : Nat) (y0 : Nat) (y1 : Nat) (y2 : Int32) (y3 : Int32) (y4 : Int32) (z : St), zEq zClP z0 z → zPr zClP z0 (fX19_leastSums_57 N K41 n y0 y1 y2 y3 y4 z) := by
  intro n
  induction n with
  | zero => intro y0 y1 y2 y3 y4 z h; exact zp_n
  | succ n ih => intro y0 y1 y2 y3 y4 z h; exact pX19_leastSums_57b hK41 (fun _ _ _ _ _ _ h => ih _ _ _ _ _ _ h) h
theorem pX19_leastSums_268 {z0 z : St} {N : Nat} {K173 : Nat → Int32 → St → Option (Int32 × St)} {K181 : Nat → Int32 → Int32 → St → Option (Int32 × St)} {K190 : Nat → Int32 → Int32 → Int32 → St → Option (Int32 × St)} {x0 : Nat} {x2 : Int32} {x3 : Int32} {x4 : Int32} {s0 : Nat} {s1 : Int32} {s2 : Int32} (hK173 : ∀ a0 a1 a2, zEq zClP z0 a2 → zPr zClP z0 (K173 a0 a1 a2)) (hK181 : ∀ a0 a1 a2 a3, zEq zClP z0 a3 → zPr zClP z0 (K181 a0 a1 a2 a3)) (hK190 : ∀ a0 a1 a2 a3 a4, zEq zClP z0 a4 → zPr zClP z0 (K190 a0 a1 a2 a3 a4)) (h : zEq zClP z0 z) : zPr zClP z0 (fX19_leastSums_268 N K173 K181 K190 x0 x2 x3 x4 s0 s1 s2 z) := by
  unfold fX19_leastSums_268
  exact zp_k (zp_lA h rfl (fun z2 h1 => zp_l (fun v3 => hK190 _ _ _ _ _ h1)))
theorem pX19_leastSums_190b {z0 z : St} {N : Nat} {K173 : Nat → Int32 → St → Option (Int32 × St)} {K181 : Nat → Int32 → Int32 → St → Option (Int32 × St)} {K190 : Nat → Int32 → Int32 → Int32 → St → Option (Int32 × St)} {x0 : Nat} {x2 : Int32} {x3 : Int32} {x4 : Int32} (hK173 : ∀ a0 a1 a2, zEq zClP z0 a2 → zPr zClP z0 (K173 a0 a1 a2)) (hK181 : ∀ a0 a1 a2 a3, zEq zClP z0 a3 → zPr zClP z0 (K181 a0 a1 a2 a3)) (hK190 : ∀ a0 a1 a2 a3 a4, zEq zClP z0 a4 → zPr zClP z0 (K190 a0 a1 a2 a3 a4)) (h : zEq zClP z0 z) : zPr zClP z0 (fX19_leastSums_190b N K173 K181 K190 x0 x2 x3 x4 z) := by
  unfold fX19_leastSums_190b
  exact zp_i (zp_l (fun v2 => hK181 _ _ _ _ h)) (zp_k (zp_k (zp_l (fun v5 => zp_k (zp_i (zp_k (pX19_leastSums_268 hK173 hK181 hK190 h)) (pX19_leastSums_268 hK173 hK181 hK190 h))))))
theorem pX19_leastSums_190 {z0 : St} {N : Nat} {K173 : Nat → Int32 → St → Option (Int32 × St)} {K181 : Nat → Int32 → Int32 → St → Option (Int32 × St)} (hK173 : ∀ a0 a1 a2, zEq zClP z0 a2 → zPr zClP z0 (K173 a0 a1 a2)) (hK181 : ∀ a0 a1 a2 a3, zEq zClP z0 a3 → zPr zClP z0 (K181 a0 a1 a2 a3)) : ∀ (n : Nat) (y0 : Nat) (y1 : Int32) (y2 : Int32) (y3 : Int32) (z : St), zEq zClP z0 z → zPr zClP z0 (fX19_leastSums_190 N K173 K181 n y0 y1 y2 y3 z) := by
  intro n
  induction n with
  | zero => intro y0 y1 y2 y3 z h; exact zp_n
  | succ n ih => intro y0 y1 y2 y3 z h; exact pX19_leastSums_190b hK173 hK181 (fun _ _ _ _ _ h => ih _ _ _ _ _ h) h
theorem pX19_leastSums_181b {z0 z : St} {N : Nat} {K173 : Nat → Int32 → St → Option (Int32 × St)} {K181 : Nat → Int32 → Int32 → St → Option (Int32 × St)} {x0 : Nat} {x2 : Int32} {x3 : Int32} (hK173 : ∀ a0 a1 a2, zEq zClP z0 a2 → zPr zClP z0 (K173 a0 a1 a2)) (hK181 : ∀ a0 a1 a2 a3, zEq zClP z0 a3 → zPr zClP z0 (K181 a0 a1 a2 a3)) (h : zEq zClP z0 z) : zPr zClP z0 (fX19_leastSums_181b N K173 K181 x0 x2 x3 z) := by
  unfold fX19_leastSums_181b
  exact zp_i (zp_l (fun v2 => hK173 _ _ _ h)) (pX19_leastSums_190 hK173 hK181 _ _ _ _ _ _ h)
theorem pX19_leastSums_181 {z0 : St} {N : Nat} {K173 : Nat → Int32 → St → Option (Int32 × St)} (hK173 : ∀ a0 a1 a2, zEq zClP z0 a2 → zPr zClP z0 (K173 a0 a1 a2)) : ∀ (n : Nat) (y0 : Nat) (y1 : Int32) (y2 : Int32) (z : St), zEq zClP z0 z → zPr zClP z0 (fX19_leastSums_181 N K173 n y0 y1 y2 z) := by
  intro n
  induction n with
  | zero => intro y0 y1 y2 z h; exact zp_n
  | succ n ih => intro y0 y1 y2 z h; exact pX19_leastSums_181b hK173 (fun _ _ _ _ h => ih _ _ _ _ h) h
theorem pX19_leastSums_173b {z0 z : St} {N : Nat} {K173 : Nat → Int32 → St → Option (Int32 × St)} {x0 : Nat} {x2 : Int32} (hK173 : ∀ a0 a1 a2, zEq zClP z0 a2 → zPr zClP z0 (K173 a0 a1 a2)) (h : zEq zClP z0 z) : zPr zClP z0 (fX19_leastSums_173b N K173 x0 x2 z) := by
  unfold fX19_leastSums_173b
  exact zp_i (zp_s h) (pX19_leastSums_181 hK173 _ _ _ _ _ h)
theorem pX19_leastSums_173 {z0 : St} {N : Nat} : ∀ (n : Nat) (y0 : Nat) (y1 : Int32) (z : St), zEq zClP z0 z → zPr zClP z0 (fX19_leastSums_173 N n y0 y1 z) := by
  intro n
  induction n with
  | zero => intro y0 y1 z h; exact zp_n
  | succ n ih => intro y0 y1 z h; exact pX19_leastSums_173b  (fun _ _ _ h => ih _ _ _ h) h
theorem pX19_leastSums_41b {z0 z : St} {N : Nat} {K41 : Nat → Nat → Int32 → St → Option (Int32 × St)} {x0 : Nat} {x1 : Nat} {x2 : Int32} (hK41 : ∀ a0 a1 a2 a3, zEq zClP z0 a3 → zPr zClP z0 (K41 a0 a1 a2 a3)) (h : zEq zClP z0 z) : zPr zClP z0 (fX19_leastSums_41b N K41 x0 x1 x2 z) := by
  unfold fX19_leastSums_41b
  exact zp_i (pX19_leastSums_173  _ _ _ _ h) (zp_k (zp_l (fun v3 => pX19_leastSums_57 hK41 _ _ _ _ _ _ _ h)))
theorem pX19_leastSums_41 {z0 : St} {N : Nat} : ∀ (n : Nat) (y0 : Nat) (y1 : Nat) (y2 : Int32) (z : St), zEq zClP z0 z → zPr zClP z0 (fX19_leastSums_41 N n y0 y1 y2 z) := by
  intro n
  induction n with
  | zero => intro y0 y1 y2 z h; exact zp_n
  | succ n ih => intro y0 y1 y2 z h; exact pX19_leastSums_41b  (fun _ _ _ _ h => ih _ _ _ _ h) h
theorem pX19_leastSums_2b {z0 z : St} {N : Nat} {K2 : Nat → Nat → Int32 → St → Option (Int32 × St)} {x0 : Nat} {x1 : Nat} {x2 : Int32} (hK2 : ∀ a0 a1 a2 a3, zEq zClP z0 a3 → zPr zClP z0 (K2 a0 a1 a2 a3)) (h : zEq zClP z0 z) : zPr zClP z0 (fX19_leastSums_2b N K2 x0 x1 x2 z) := by
  unfold fX19_leastSums_2b
  exact zp_i (pX19_leastSums_41  _ _ _ _ _ h) (zp_i (pX19_leastSums_32 hK2 h) (pX19_leastSums_32 hK2 h))
theorem pX19_leastSums_2 {z0 : St} {N : Nat} : ∀ (n : Nat) (y0 : Nat) (y1 : Nat) (y2 : Int32) (z : St), zEq zClP z0 z → zPr zClP z0 (fX19_leastSums_2 N n y0 y1 y2 z) := by
  intro n
  induction n with
  | zero => intro y0 y1 y2 z h; exact zp_n
  | succ n ih => intro y0 y1 y2 z h; exact pX19_leastSums_2b  (fun _ _ _ _ h => ih _ _ _ _ h) h
theorem pX19_leastSums {z0 z : St} {N : Nat} {x0 : Nat} {x1 : Nat} (h : zEq zClP z0 z) : zPr zClP z0 (fX19_leastSums N x0 x1 z) := by
  unfold fX19_leastSums
  exact pX19_leastSums_2  _ _ _ _ _ h
theorem pX19_farWay_75 {z0 z : St} {N : Nat} {K7 : Nat → Nat → Int32 → Int32 → Int32 → St → Option (Int32 × St)} {x0 : Nat} {x1 : Nat} {x2 : Int32} {x3 : Int32} {x4 : Int32} (hK7 : ∀ a0 a1 a2 a3 a4 a5, zEq zClP z0 a5 → zPr zClP z0 (K7 a0 a1 a2 a3 a4 a5)) (h : zEq zClP z0 z) : zPr zClP z0 (fX19_farWay_75 N K7 x0 x1 x2 x3 x4 z) := by
  unfold fX19_farWay_75
  exact zp_l (fun v1 => hK7 _ _ _ _ _ _ h)
theorem pX19_farWay_311 {z0 z : St} {N : Nat} {K121 : Nat → Nat → Int32 → Int32 → Int32 → Int32 → St → Option (Int32 × St)} {K207 : Nat → Nat → Int32 → Int32 → Int32 → Int32 → Int32 → Int32 → Int32 → Int32 → St → Option (Int32 × St)} {x0 : Nat} {x1 : Nat} {x2 : Int32} {x3 : Int32} {x4 : Int32} {x5 : Int32} {x6 : Int32} {x7 : Int32} {x8 : Int32} {x9 : Int32} (hK121 : ∀ a0 a1 a2 a3 a4 a5 a6, zEq zClP z0 a6 → zPr zClP z0 (K121 a0 a1 a2 a3 a4 a5 a6)) (hK207 : ∀ a0 a1 a2 a3 a4 a5 a6 a7 a8 a9 a10, zEq zClP z0 a10 → zPr zClP z0 (K207 a0 a1 a2 a3 a4 a5 a6 a7 a8 a9 a10)) (h : zEq zClP z0 z) : zPr zClP z0 (fX19_farWay_311 N K121 K207 x0 x1 x2 x3 x4 x5 x6 x7 x8 x9 z) := by
  unfold fX19_farWay_311
  exact zp_l (fun v1 => hK207 _ _ _ _ _ _ _ _ _ _ _ h)
theorem pX19_farWay_317 {z0 z : St} {N : Nat} {K121 : Nat → Nat → Int32 → Int32 → Int32 → Int32 → St → Option (Int32 × St)} {x0 : Nat} {x1 : Nat} {x2 : Int32} {x3 : Int32} {x4 : Int32} {x5 : Int32} (hK121 : ∀ a0 a1 a2 a3 a4 a5 a6, zEq zClP z0 a6 → zPr zClP z0 (K121 a0 a1 a2 a3 a4 a5 a6)) (h : zEq zClP z0 z) : zPr zClP z0 (fX19_farWay_317 N K121 x0 x1 x2 x3 x4 x5 z) := by
  unfold fX19_farWay_317
  exact zp_l (fun v1 => hK121 _ _ _ _ _ _ _ h)
theorem pX19_farWay_207b {z0 z : St} {N : Nat} {K121 : Nat → Nat → Int32 → Int32 → Int32 → Int32 → St → Option (Int32 × St)} {K207 : Nat → Nat → Int32 → Int32 → Int32 → Int32 → Int32 → Int32 → Int32 → Int32 → St → Option (Int32 × St)} {x0 : Nat} {x1 : Nat} {x2 : Int32} {x3 : Int32} {x4 : Int32} {x5 : Int32} {x6 : Int32} {x7 : Int32} {x8 : Int32} {x9 : Int32} (hK121 : ∀ a0 a1 a2 a3 a4 a5 a6, zEq zClP z0 a6 → zPr zClP z0 (K121 a0 a1 a2 a3 a4 a5 a6)) (hK207 : ∀ a0 a1 a2 a3 a4 a5 a6 a7 a8 a9 a10, zEq zClP z0 a10 → zPr zClP z0 (K207 a0 a1 a2 a3 a4 a5 a6 a7 a8 a9 a10)) (h : zEq zClP z0 z) : zPr zClP z0 (fX19_farWay_207b N K121 K207 x0 x1 x2 x3 x4 x5 x6 x7 x8 x9 z) := by
  unfold fX19_farWay_207b
  exact zp_i (pX19_farWay_317 hK121 h) (zp_i (pX19_farWay_317 hK121 h) (zp_k (zp_i (pX19_farWay_317 hK121 h) (zp_k (zp_c (pX19_costOn  h) (fun r6 z7 h1 => zp_i (pX19_farWay_311 hK121 hK207 h1) (zp_i (pX19_farWay_311 hK121 hK207 h1) (zp_c (pX19_friendRow  h1) (fun r12 z13 h2 => zp_k (zp_i (pX19_farWay_311 hK121 hK207 h2) (zp_k (zp_lA h2 rfl (fun z19 h3 => zp_k (zp_lA h3 rfl (fun z21 h4 => zp_k (zp_lA h4 rfl (fun z23 h5 => pX19_farWay_311 hK121 hK207 h5)))))))))))))))))
theorem pX19_farWay_207 {z0 : St} {N : Nat} {K121 : Nat → Nat → Int32 → Int32 → Int32 → Int32 → St → Option (Int32 × St)} (hK121 : ∀ a0 a1 a2 a3 a4 a5 a6, zEq zClP z0 a6 → zPr zClP z0 (K121 a0 a1 a2 a3 a4 a5 a6)) : ∀ (n : Nat) (y0 : Nat) (y1 : Nat) (y2 : Int32) (y3 : Int32) (y4 : Int32) (y5 : Int32) (y6 : Int32) (y7 : Int32) (y8 : Int32) (y9 : Int32) (z : St), zEq zClP z0 z → zPr zClP z0 (fX19_farWay_207 N K121 n y0 y1 y2 y3 y4 y5 y6 y7 y8 y9 z) := by
  intro n
  induction n with
  | zero => intro y0 y1 y2 y3 y4 y5 y6 y7 y8 y9 z h; exact zp_n
  | succ n ih => intro y0 y1 y2 y3 y4 y5 y6 y7 y8 y9 z h; exact pX19_farWay_207b hK121 (fun _ _ _ _ _ _ _ _ _ _ _ h => ih _ _ _ _ _ _ _ _ _ _ _ h) h
theorem pX19_farWay_202 {z0 z : St} {N : Nat} {K121 : Nat → Nat → Int32 → Int32 → Int32 → Int32 → St → Option (Int32 × St)} {x0 : Nat} {x1 : Nat} {x2 : Int32} {x3 : Int32} {x4 : Int32} {x5 : Int32} {x6 : Int32} {x7 : Int32} {s0 : Int32} (hK121 : ∀ a0 a1 a2 a3 a4 a5 a6, zEq zClP z0 a6 → zPr zClP z0 (K121 a0 a1 a2 a3 a4 a5 a6)) (h : zEq zClP z0 z) : zPr zClP z0 (fX19_farWay_202 N K121 x0 x1 x2 x3 x4 x5 x6 x7 s0 z) := by
  unfold fX19_farWay_202
  exact pX19_farWay_207 hK121 _ _ _ _ _ _ _ _ _ _ _ _ h
theorem pX19_farWay_201 {z0 z : St} {N : Nat} {K121 : Nat → Nat → Int32 → Int32 → Int32 → Int32 → St → Option (Int32 × St)} {x0 : Nat} {x1 : Nat} {x2 : Int32} {x3 : Int32} {x4 : Int32} {x5 : Int32} {x6 : Int32} {x7 : Int32} (hK121 : ∀ a0 a1 a2 a3 a4 a5 a6, zEq zClP z0 a6 → zPr zClP z0 (K121 a0 a1 a2 a3 a4 a5 a6)) (h : zEq zClP z0 z) : zPr zClP z0 (fX19_farWay_201 N K121 x0 x1 x2 x3 x4 x5 x6 x7 z) := by
  unfold fX19_farWay_201
  exact pX19_farWay_202 hK121 h
theorem pX19_farWay_121b {z0 z : St} {N : Nat} {K121 : Nat → Nat → Int32 → Int32 → Int32 → Int32 → St → Option (Int32 × St)} {x0 : Nat} {x1 : Nat} {x2 : Int32} {x3 : Int32} {x4 : Int32} {x5 : Int32} (hK121 : ∀ a0 a1 a2 a3 a4 a5 a6, zEq zClP z0 a6 → zPr zClP z0 (K121 a0 a1 a2 a3 a4 a5 a6)) (h : zEq zClP z0 z) : zPr zClP z0 (fX19_farWay_121b N K121 x0 x1 x2 x3 x4 x5 z) := by
  unfold fX19_farWay_121b
  exact zp_c (pX19_ad  h) (fun r1 z2 h1 => zp_i (zp_s h1) (zp_k (zp_i (zp_s h1) (zp_c (pX19_friendRow  h1) (fun r8 z9 h2 => zp_c (pX19_friendRow  h2) (fun r12 z13 h3 => zp_k (zp_i (pX19_farWay_201 hK121 h3) (zp_k (zp_c (pX19_costTo  h3) (fun r19 z20 h4 => zp_i (pX19_farWay_201 hK121 h4) (pX19_farWay_202 hK121 h4)))))))))))
theorem pX19_farWay_121 {z0 : St} {N : Nat} : ∀ (n : Nat) (y0 : Nat) (y1 : Nat) (y2 : Int32) (y3 : Int32) (y4 : Int32) (y5 : Int32) (z : St), zEq zClP z0 z → zPr zClP z0 (fX19_farWay_121 N n y0 y1 y2 y3 y4 y5 z) := by
  intro n
  induction n with
  | zero => intro y0 y1 y2 y3 y4 y5 z h; exact zp_n
  | succ n ih => intro y0 y1 y2 y3 y4 y5 z h; exact pX19_farWay_121b  (fun _ _ _ _ _ _ _ h => ih _ _ _ _ _ _ _ h) h
theorem pX19_farWay_7b {z0 z : St} {N : Nat} {K7 : Nat → Nat → Int32 → Int32 → Int32 → St → Option (Int32 × St)} {x0 : Nat} {x1 : Nat} {x2 : Int32} {x3 : Int32} {x4 : Int32} (hK7 : ∀ a0 a1 a2 a3 a4 a5, zEq zClP z0 a5 → zPr zClP z0 (K7 a0 a1 a2 a3 a4 a5)) (h : zEq zClP z0 z) : zPr zClP z0 (fX19_farWay_7b N K7 x0 x1 x2 x3 x4 z) := by
  unfold fX19_farWay_7b
  exact zp_i (zp_i (zp_s h) (zp_k (zp_c (pX19_costOn  h) (fun r4 z5 h1 => zp_i (zp_k (zp_l (fun v10 => pX19_farWay_121  _ _ _ _ _ _ _ _ h1))) (zp_s h1))))) (zp_k (zp_c (pX19_costOn  h) (fun r12 z13 h2 => zp_i (pX19_farWay_75 hK7 h2) (zp_k (zp_i (pX19_farWay_75 hK7 h2) (zp_k (zp_l (fun v20 => pX19_farWay_75 hK7 h2))))))))
theorem pX19_farWay_7 {z0 : St} {N : Nat} : ∀ (n : Nat) (y0 : Nat) (y1 : Nat) (y2 : Int32) (y3 : Int32) (y4 : Int32) (z : St), zEq zClP z0 z → zPr zClP z0 (fX19_farWay_7 N n y0 y1 y2 y3 y4 z) := by
  intro n
  induction n with
  | zero => intro y0 y1 y2 y3 y4 z h; exact zp_n
  | succ n ih => intro y0 y1 y2 y3 y4 z h; exact pX19_farWay_7b  (fun _ _ _ _ _ _ h => ih _ _ _ _ _ _ h) h
theorem pX19_farWay {z0 z : St} {N : Nat} {x0 : Nat} {x1 : Nat} {x2 : Int32} (h : zEq zClP z0 z) : zPr zClP z0 (fX19_farWay N x0 x1 x2 z) := by
  unfold fX19_farWay
  exact pX19_farWay_7  _ _ _ _ _ _ _ h
theorem pX19_ways_102 {z0 z : St} {N : Nat} {K20 : Nat → Nat → Int32 → St → Option (Int32 × St)} {K52 : Nat → Nat → Int32 → Option Nat → Int32 → St → Option (Int32 × St)} {x0 : Nat} {x1 : Nat} {x2 : Int32} {x4 : Int32} {s0 : Option Nat} (hK20 : ∀ a0 a1 a2 a3, zEq zClP z0 a3 → zPr zClP z0 (K20 a0 a1 a2 a3)) (hK52 : ∀ a0 a1 a2 a3 a4 a5, zEq zClP z0 a5 → zPr zClP z0 (K52 a0 a1 a2 a3 a4 a5)) (h : zEq zClP z0 z) : zPr zClP z0 (fX19_ways_102 N K20 K52 x0 x1 x2 x4 s0 z) := by
  unfold fX19_ways_102
  exact zp_l (fun v1 => hK52 _ _ _ _ _ _ h)
theorem pX19_ways_101 {z0 z : St} {N : Nat} {K20 : Nat → Nat → Int32 → St → Option (Int32 × St)} {K52 : Nat → Nat → Int32 → Option Nat → Int32 → St → Option (Int32 × St)} {x0 : Nat} {x1 : Nat} {x2 : Int32} {x3 : Option Nat} {x4 : Int32} (hK20 : ∀ a0 a1 a2 a3, zEq zClP z0 a3 → zPr zClP z0 (K20 a0 a1 a2 a3)) (hK52 : ∀ a0 a1 a2 a3 a4 a5, zEq zClP z0 a5 → zPr zClP z0 (K52 a0 a1 a2 a3 a4 a5)) (h : zEq zClP z0 z) : zPr zClP z0 (fX19_ways_101 N K20 K52 x0 x1 x2 x3 x4 z) := by
  unfold fX19_ways_101
  exact pX19_ways_102 hK20 hK52 h
theorem pX19_ways_149 {z0 z : St} {N : Nat} {K20 : Nat → Nat → Int32 → St → Option (Int32 × St)} {x0 : Nat} {x1 : Nat} {x2 : Int32} (hK20 : ∀ a0 a1 a2 a3, zEq zClP z0 a3 → zPr zClP z0 (K20 a0 a1 a2 a3)) (h : zEq zClP z0 z) : zPr zClP z0 (fX19_ways_149 N K20 x0 x1 x2 z) := by
  unfold fX19_ways_149
  exact zp_l (fun v1 => hK20 _ _ _ _ h)
theorem pX19_ways_52b {z0 z : St} {N : Nat} {K20 : Nat → Nat → Int32 → St → Option (Int32 × St)} {K52 : Nat → Nat → Int32 → Option Nat → Int32 → St → Option (Int32 × St)} {x0 : Nat} {x1 : Nat} {x2 : Int32} {x3 : Option Nat} {x4 : Int32} (hK20 : ∀ a0 a1 a2 a3, zEq zClP z0 a3 → zPr zClP z0 (K20 a0 a1 a2 a3)) (hK52 : ∀ a0 a1 a2 a3 a4 a5, zEq zClP z0 a5 → zPr zClP z0 (K52 a0 a1 a2 a3 a4 a5)) (h : zEq zClP z0 z) : zPr zClP z0 (fX19_ways_52b N K20 K52 x0 x1 x2 x3 x4 z) := by
  unfold fX19_ways_52b
  exact zp_i (zp_o (zp_c (pX19_farWay  h) (fun _ z5 h1 => pX19_ways_149 hK20 h1)) (fun a3 => zp_k (zp_lA h rfl (fun z9 h2 => zp_k (zp_lA h2 rfl (fun z11 h3 => zp_k (zp_lA h3 rfl (fun z13 h4 => pX19_ways_149 hK20 h4)))))))) (zp_k (zp_l (fun y15 => zp_d (fun a16 => zp_l (fun y17 => zp_d (fun a18 => zp_i (pX19_ways_101 hK20 hK52 h) (zp_k (zp_l (fun y21 => zp_d (fun a22 => zp_i (pX19_ways_101 hK20 hK52 h) (zp_k (zp_l (fun y25 => pX19_ways_102 hK20 hK52 h)))))))))))))
theorem pX19_ways_52 {z0 : St} {N : Nat} {K20 : Nat → Nat → Int32 → St → Option (Int32 × St)} (hK20 : ∀ a0 a1 a2 a3, zEq zClP z0 a3 → zPr zClP z0 (K20 a0 a1 a2 a3)) : ∀ (n : Nat) (y0 : Nat) (y1 : Nat) (y2 : Int32) (y3 : Option Nat) (y4 : Int32) (z : St), zEq zClP z0 z → zPr zClP z0 (fX19_ways_52 N K20 n y0 y1 y2 y3 y4 z) := by
  intro n
  induction n with
  | zero => intro y0 y1 y2 y3 y4 z h; exact zp_n
  | succ n ih => intro y0 y1 y2 y3 y4 z h; exact pX19_ways_52b hK20 (fun _ _ _ _ _ _ h => ih _ _ _ _ _ _ h) h
theorem pX19_ways_20b {z0 z : St} {N : Nat} {K20 : Nat → Nat → Int32 → St → Option (Int32 × St)} {x0 : Nat} {x1 : Nat} {x2 : Int32} (hK20 : ∀ a0 a1 a2 a3, zEq zClP z0 a3 → zPr zClP z0 (K20 a0 a1 a2 a3)) (h : zEq zClP z0 z) : zPr zClP z0 (fX19_ways_20b N K20 x0 x1 x2 z) := by
  unfold fX19_ways_20b
  exact zp_i (zp_s h) (zp_k (zp_lA h rfl (fun z3 h1 => zp_k (zp_lA h1 rfl (fun z5 h2 => zp_k (zp_lA h2 rfl (fun z7 h3 => pX19_ways_52 hK20 _ _ _ _ _ _ _ h3)))))))
theorem pX19_ways_20 {z0 : St} {N : Nat} : ∀ (n : Nat) (y0 : Nat) (y1 : Nat) (y2 : Int32) (z : St), zEq zClP z0 z → zPr zClP z0 (fX19_ways_20 N n y0 y1 y2 z) := by
  intro n
  induction n with
  | zero => intro y0 y1 y2 z h; exact zp_n
  | succ n ih => intro y0 y1 y2 z h; exact pX19_ways_20b  (fun _ _ _ _ h => ih _ _ _ _ h) h
theorem pX19_ways {z0 z : St} {N : Nat} {x0 : Nat} {x1 : Nat} (h : zEq zClP z0 z) : zPr zClP z0 (fX19_ways N x0 x1 z) := by
  unfold fX19_ways
  exact zp_i (zp_lI h rfl (fun z2 h1 => zp_c (pX19_leastSums  h1) (fun _ z4 h2 => pX19_ways_20  _ _ _ _ _ h2))) (zp_s h)
theorem pX19_toldBy_128 {z0 z : St} {N : Nat} {x5 : Int32} {s0 : Nat} (h : zEq zClP z0 z) : zPr zClP z0 (fX19_toldBy_128 N x5 s0 z) := by
  unfold fX19_toldBy_128
  exact zp_lI h rfl (fun z1 h1 => zp_s h1)
theorem pX19_toldBy_68b {z0 z : St} {N : Nat} {K68 : Nat → Nat → Int32 → Int32 → Int32 → Int32 → St → Option (Int32 × St)} {x0 : Nat} {x1 : Nat} {x3 : Int32} {x4 : Int32} {x5 : Int32} {x6 : Int32} (hK68 : ∀ a0 a1 a2 a3 a4 a5 a6, zEq zClP z0 a6 → zPr zClP z0 (K68 a0 a1 a2 a3 a4 a5 a6)) (h : zEq zClP z0 z) : zPr zClP z0 (fX19_toldBy_68b N K68 x0 x1 x3 x4 x5 x6 z) := by
  unfold fX19_toldBy_68b
  exact zp_i (zp_i (pX19_toldBy_128  h) (zp_i (pX19_toldBy_128  h) (zp_lI h rfl (fun z4 h1 => zp_s h1)))) (zp_k (zp_c (pX19_setByte  h) (fun _ z7 h2 => zp_l (fun v10 => hK68 _ _ _ _ _ _ _ h2))))
theorem pX19_toldBy_68 {z0 : St} {N : Nat} : ∀ (n : Nat) (y0 : Nat) (y1 : Nat) (y2 : Int32) (y3 : Int32) (y4 : Int32) (y5 : Int32) (z : St), zEq zClP z0 z → zPr zClP z0 (fX19_toldBy_68 N n y0 y1 y2 y3 y4 y5 z) := by
  intro n
  induction n with
  | zero => intro y0 y1 y2 y3 y4 y5 z h; exact zp_n
  | succ n ih => intro y0 y1 y2 y3 y4 y5 z h; exact pX19_toldBy_68b  (fun _ _ _ _ _ _ _ h => ih _ _ _ _ _ _ _ h) h
theorem pX19_toldBy_41 {z0 z : St} {N : Nat} {x0 : Nat} {x1 : Nat} {x3 : Int32} {x4 : Int32} {x5 : Int32} {s0 : Nat} {s1 : Int32} {s2 : Int32} {s3 : Int32} (h : zEq zClP z0 z) : zPr zClP z0 (fX19_toldBy_41 N x0 x1 x3 x4 x5 s0 s1 s2 s3 z) := by
  unfold fX19_toldBy_41
  exact zp_c (pX19_setSeg  h) (fun _ z2 h1 => zp_c (pX14_room  h1) (fun r5 z6 h2 => zp_c (pX19_setSeg  h2) (fun _ z10 h3 => zp_c (pX19_setSeg  h3) (fun _ z14 h4 => pX19_toldBy_68  _ _ _ _ _ _ _ _ h4))))
theorem pX19_toldBy_16 {z0 z : St} {N : Nat} {x0 : Nat} {x1 : Nat} {x3 : Int32} {x4 : Int32} {s0 : Nat} {s1 : Int32} (h : zEq zClP z0 z) : zPr zClP z0 (fX19_toldBy_16 N x0 x1 x3 x4 s0 s1 z) := by
  unfold fX19_toldBy_16
  exact zp_c (pX19_newSegment  h) (fun r1 z2 h1 => zp_i (pX19_toldBy_41  h1) (pX19_toldBy_41  h1))
theorem pX19_toldBy {z0 z : St} {N : Nat} {x0 : Nat} {x1 : Nat} {x2 : Int32} {x3 : Int32} {x4 : Int32} (h : zEq zClP z0 z) : zPr zClP z0 (fX19_toldBy N x0 x1 x2 x3 x4 z) := by
  unfold fX19_toldBy
  exact zp_i (pX19_toldBy_16  h) (pX19_toldBy_16  h)
theorem pX19_sendNew_148 {z0 z : St} {N : Nat} {x0 : Nat} {x1 : Nat} {x6 : Int32} {s0 : Nat} {s1 : Int32} {s2 : Int32} {s3 : Int32} (h : zEq zClP z0 z) : zPr zClP z0 (fX19_sendNew_148 N x0 x1 x6 s0 s1 s2 s3 z) := by
  unfold fX19_sendNew_148
  exact zp_lI h rfl (fun z1 h1 => zp_c (pX14_isNew  h1) (fun _ z3 h2 => zp_s h2))
theorem pX19_sendNew_120 {z0 z : St} {N : Nat} {x0 : Nat} {x1 : Nat} {x4 : Int32} {x5 : Int32} {s0 : Nat} {s1 : Nat} {s2 : Int32} (h : zEq zClP z0 z) : zPr zClP z0 (fX19_sendNew_120 N x0 x1 x4 x5 s0 s1 s2 z) := by
  unfold fX19_sendNew_120
  exact zp_c (pX19_toldBy  h) (fun r1 z2 h1 => zp_i (pX19_sendNew_148  h1) (pX19_sendNew_148  h1))
theorem pX19_sendNew_108 {z0 z : St} {N : Nat} {x0 : Nat} {x1 : Nat} {x4 : Int32} {x5 : Int32} (h : zEq zClP z0 z) : zPr zClP z0 (fX19_sendNew_108 N x0 x1 x4 x5 z) := by
  unfold fX19_sendNew_108
  exact zp_i (pX19_sendNew_120  h) (pX19_sendNew_120  h)
theorem pX19_sendNew_94 {z0 z : St} {N : Nat} {x0 : Nat} {x1 : Nat} {x4 : Int32} {s0 : Int32} (h : zEq zClP z0 z) : zPr zClP z0 (fX19_sendNew_94 N x0 x1 x4 s0 z) := by
  unfold fX19_sendNew_94
  exact zp_i (pX19_sendNew_108  h) (zp_i (pX19_sendNew_108  h) (zp_s h))
theorem pX19_sendNew_93 {z0 z : St} {N : Nat} {x0 : Nat} {x1 : Nat} {x4 : Int32} (h : zEq zClP z0 z) : zPr zClP z0 (fX19_sendNew_93 N x0 x1 x4 z) := by
  unfold fX19_sendNew_93
  exact pX19_sendNew_94  h
theorem pX19_sendNew_68 {z0 z : St} {N : Nat} {x0 : Nat} {x1 : Nat} {x2 : Int32} {x3 : Int32} {s0 : Int32} (h : zEq zClP z0 z) : zPr zClP z0 (fX19_sendNew_68 N x0 x1 x2 x3 s0 z) := by
  unfold fX19_sendNew_68
  exact zp_i (pX19_sendNew_93  h) (zp_i (pX19_sendNew_93  h) (zp_i (pX19_sendNew_93  h) (pX19_sendNew_94  h)))
theorem pX19_sendNew_54 {z0 z : St} {N : Nat} {x0 : Nat} {x1 : Nat} {x2 : Int32} {x3 : Int32} {s0 : Int32} (h : zEq zClP z0 z) : zPr zClP z0 (fX19_sendNew_54 N x0 x1 x2 x3 s0 z) := by
  unfold fX19_sendNew_54
  exact zp_i (pX19_sendNew_68  h) (pX19_sendNew_68  h)
theorem pX19_sendNew {z0 z : St} {N : Nat} {x0 : Nat} {x1 : Nat} (h : zEq zClP z0 z) : zPr zClP z0 (fX19_sendNew N x0 x1 z) := by
  unfold fX19_sendNew
  exact zp_l (fun v1 => zp_c (pX14_hasNew  h) (fun r2 z3 h1 => zp_i (zp_s h1) (zp_i (zp_l (fun v8 => zp_i (pX19_sendNew_54  h1) (pX19_sendNew_54  h1))) (zp_s h1))))
theorem pX19_sendOpen_111 {z0 z : St} {N : Nat} {x0 : Nat} {x1 : Nat} {x2 : Int32} (h : zEq zClP z0 z) : zPr zClP z0 (fX19_sendOpen_111 N x0 x1 x2 z) := by
  unfold fX19_sendOpen_111
  exact zp_lI h rfl (fun z1 h1 => zp_i (zp_s h1) (zp_c (pX14_setAlarm  h1) (fun _ z4 h2 => zp_s h2)))
theorem pX19_sendOpen {z0 z : St} {N : Nat} {x0 : Nat} {x1 : Nat} (h : zEq zClP z0 z) : zPr zClP z0 (fX19_sendOpen N x0 x1 z) := by
  unfold fX19_sendOpen
  exact zp_lI h rfl (fun z1 h1 => zp_c (pX19_toldBy  h1) (fun r2 z3 h2 => zp_c (pX19_setSeg  h2) (fun _ z7 h3 => zp_c (pX19_setSeg  h3) (fun _ z11 h4 => zp_k (zp_c (pX19_setSeg  h4) (fun _ z16 h5 => zp_k (zp_k (zp_lA h5 rfl (fun z21 h6 => zp_i (zp_i (pX19_sendOpen_111  h6) (zp_lI h6 rfl (fun z24 h7 => zp_lI h7 rfl (fun z25 h8 => zp_lI h8 rfl (fun z26 h9 => pX19_sendOpen_111  h9))))) (zp_lI h6 rfl (fun z27 h10 => pX19_sendOpen_111  h10)))))))))))
theorem pX19_send_127 {z0 z : St} {N : Nat} {x1 : Nat} {x3 : Int32} {s0 : Nat} {s1 : Nat} {s2 : Int32} (h : zEq zClP z0 z) : zPr zClP z0 (fX19_send_127 N x1 x3 s0 s1 s2 z) := by
  unfold fX19_send_127
  exact zp_c (pX19_toldBy  h) (fun r1 z2 h1 => zp_s h1)
theorem pX19_send_126 {z0 z : St} {N : Nat} {x1 : Nat} {x3 : Int32} {s0 : Nat} {s1 : Nat} (h : zEq zClP z0 z) : zPr zClP z0 (fX19_send_126 N x1 x3 s0 s1 z) := by
  unfold fX19_send_126
  exact pX19_send_127  h
theorem pX19_send_107 {z0 z : St} {N : Nat} {x0 : Nat} {x1 : Nat} {x2 : Int32} {s0 : Int32} (h : zEq zClP z0 z) : zPr zClP z0 (fX19_send_107 N x0 x1 x2 s0 z) := by
  unfold fX19_send_107
  exact zp_c (pX14_lastSent  h) (fun r1 z2 h1 => zp_i (pX19_send_126  h1) (zp_i (pX19_send_126  h1) (pX19_send_127  h1)))
theorem pX19_send_85 {z0 z : St} {N : Nat} {x0 : Nat} {x1 : Nat} {s0 : Int32} (h : zEq zClP z0 z) : zPr zClP z0 (fX19_send_85 N x0 x1 s0 z) := by
  unfold fX19_send_85
  exact zp_l (fun v1 => zp_i (pX19_send_107  h) (pX19_send_107  h))
theorem pX19_send_199 {z0 z : St} {N : Nat} {x0 : Nat} {x1 : Nat} {x3 : Int32} {s0 : Nat} {s1 : Nat} {s2 : Int32} (h : zEq zClP z0 z) : zPr zClP z0 (fX19_send_199 N x0 x1 x3 s0 s1 s2 z) := by
  unfold fX19_send_199
  exact zp_c (pX19_toldBy  h) (fun r1 z2 h1 => zp_lI h1 rfl (fun z5 h2 => zp_c (pX14_isNew  h2) (fun _ z7 h3 => zp_s h3)))
theorem pX19_send_187 {z0 z : St} {N : Nat} {x0 : Nat} {x1 : Nat} {s0 : Int32} (h : zEq zClP z0 z) : zPr zClP z0 (fX19_send_187 N x0 x1 s0 z) := by
  unfold fX19_send_187
  exact zp_i (pX19_send_199  h) (pX19_send_199  h)
theorem pX19_send_230 {z0 z : St} {N : Nat} {x0 : Nat} {x1 : Nat} (h : zEq zClP z0 z) : zPr zClP z0 (fX19_send_230 N x0 x1 z) := by
  unfold fX19_send_230
  exact zp_i (zp_s h) (zp_c (pX19_toldBy  h) (fun r2 z3 h1 => zp_s h1))
theorem pX19_send {z0 z : St} {N : Nat} {x0 : Nat} {x1 : Nat} (h : zEq zClP z0 z) : zPr zClP z0 (fX19_send N x0 x1 z) := by
  unfold fX19_send
  exact zp_i (zp_i (zp_i (zp_c (pX19_sendNew  h) (fun r4 z5 h1 => zp_i (zp_i (pX19_send_230  h1) (zp_lI h1 rfl (fun z10 h2 => zp_c (pX14_hasNew  h2) (fun r11 z12 h3 => zp_i (pX19_send_230  h3) (zp_c (pX19_isBefore  h3) (fun r16 z17 h4 => zp_i (pX19_send_187  h4) (pX19_send_187  h4))))))) (zp_s h1))) (zp_lI h rfl (fun z21 h5 => zp_lI h5 rfl (fun z22 h6 => zp_c (pX14_lastSent  h6) (fun r23 z24 h7 => zp_i (pX19_send_85  h7) (pX19_send_85  h7)))))) (zp_c (pX19_sendOpen  h) (fun r28 z29 h8 => zp_s h8))) (zp_lI h rfl (fun z32 h9 => zp_c (pX19_newSegment  h9) (fun r33 z34 h10 => zp_c (pX19_setSeg  h10) (fun _ z38 h11 => zp_s h11))))
theorem pX19_takeEnd {z0 z : St} {N : Nat} {x0 : Nat} {x1 : Nat} (h : zEq zClP z0 z) : zPr zClP z0 (fX19_takeEnd N x0 x1 z) := by
  unfold fX19_takeEnd
  exact zp_lI h rfl (fun z1 h1 => zp_l (fun y2 => zp_d (fun a3 => zp_c (pX19_dropBook  h1) (fun _ z5 h2 => zp_l (fun y8 => zp_d (fun a9 => zp_c (pX19_dropBook  h2) (fun _ z11 h3 => zp_l (fun y14 => zp_d (fun a15 => zp_lI h3 rfl (fun z16 h4 => zp_l (fun y17 => zp_d (fun a18 => zp_lI h4 rfl (fun z19 h5 => zp_s h5)))))))))))))
theorem pX19_read_65 {z0 z : St} {N : Nat} {x1 : Nat} {x2 : Int32} {s0 : Nat} {s1 : Int32} {s2 : Int32} (h : zEq zClP z0 z) : zPr zClP z0 (fX19_read_65 N x1 x2 s0 s1 s2 z) := by
  unfold fX19_read_65
  exact zp_lI h rfl (fun z1 h1 => zp_lI h1 rfl (fun z2 h2 => zp_s h2))
theorem pX19_read_50 {z0 z : St} {N : Nat} {x0 : Nat} {x1 : Nat} {x2 : Int32} {s0 : Int32} (h : zEq zClP z0 z) : zPr zClP z0 (fX19_read_50 N x0 x1 x2 s0 z) := by
  unfold fX19_read_50
  exact zp_i (pX19_read_65  h) (pX19_read_65  h)
theorem pX19_read_49 {z0 z : St} {N : Nat} {x0 : Nat} {x1 : Nat} {x2 : Int32} (h : zEq zClP z0 z) : zPr zClP z0 (fX19_read_49 N x0 x1 x2 z) := by
  unfold fX19_read_49
  exact pX19_read_50  h
theorem pX19_read {z0 z : St} {N : Nat} {x0 : Nat} {x1 : Nat} (h : zEq zClP z0 z) : zPr zClP z0 (fX19_read N x0 x1 z) := by
  unfold fX19_read
  exact zp_c (pX14_read  h) (fun r1 z2 h1 => zp_i (pX19_read_49  h1) (zp_k (zp_i (pX19_read_49  h1) (zp_c (pX19_written  h1) (fun r8 z9 h2 => zp_i (pX19_read_49  h2) (pX19_read_50  h2))))))
theorem pX19_doorTurn_192 {z0 z : St} {N : Nat} {x0 : Nat} {x2 : Nat} (h : zEq zClP z0 z) : zPr zClP z0 (fX19_doorTurn_192 N x0 x2 z) := by
  unfold fX19_doorTurn_192
  exact zp_c (pX19_takeEnd  h) (fun _ z2 h1 => zp_s h1)
theorem pX19_doorTurn_163 {z0 z : St} {N : Nat} {x0 : Nat} {x2 : Nat} {x3 : Nat} (h : zEq zClP z0 z) : zPr zClP z0 (fX19_doorTurn_163 N x0 x2 x3 z) := by
  unfold fX19_doorTurn_163
  exact zp_i (zp_s h) (zp_i (pX19_doorTurn_192  h) (zp_c (pX14_isDead  h) (fun r3 z4 h1 => zp_i (zp_s h1) (zp_i (zp_s h1) (pX19_doorTurn_192  h1)))))
theorem pX19_doorTurn_152 {z0 z : St} {N : Nat} {x0 : Nat} {x2 : Nat} {x3 : Nat} (h : zEq zClP z0 z) : zPr zClP z0 (fX19_doorTurn_152 N x0 x2 x3 z) := by
  unfold fX19_doorTurn_152
  exact zp_c (pX14_readable  h) (fun r1 z2 h1 => zp_i (pX19_doorTurn_163  h1) (zp_c (pX19_stir  h1) (fun _ z7 h2 => pX19_doorTurn_163  h2)))
theorem pX19_doorTurn_118b {z0 z : St} {N : Nat} {K118 : Nat → Nat → Nat → St → Option (Int32 × St)} {x0 : Nat} {x2 : Nat} {x3 : Nat} (hK118 : ∀ a0 a1 a2 a3, zEq zClP z0 a3 → zPr zClP z0 (K118 a0 a1 a2 a3)) (h : zEq zClP z0 z) : zPr zClP z0 (fX19_doorTurn_118b N K118 x0 x2 x3 z) := by
  unfold fX19_doorTurn_118b
  exact zp_i (pX19_doorTurn_152  h) (zp_c (pX14_readable  h) (fun r2 z3 h1 => zp_i (pX19_doorTurn_152  h1) (zp_c (pX19_read  h1) (fun r7 z8 h2 => zp_lI h2 rfl (fun z11 h3 => hK118 _ _ _ _ h3)))))
theorem pX19_doorTurn_118 {z0 : St} {N : Nat} : ∀ (n : Nat) (y0 : Nat) (y1 : Nat) (y2 : Nat) (z : St), zEq zClP z0 z → zPr zClP z0 (fX19_doorTurn_118 N n y0 y1 y2 z) := by
  intro n
  induction n with
  | zero => intro y0 y1 y2 z h; exact zp_n
  | succ n ih => intro y0 y1 y2 z h; exact pX19_doorTurn_118b  (fun _ _ _ _ h => ih _ _ _ _ h) h
theorem pX19_doorTurn_75b {z0 z : St} {N : Nat} {K75 : Nat → Nat → Nat → Nat → Int32 → St → Option (Int32 × St)} {x0 : Nat} {x1 : Nat} {x2 : Nat} {x3 : Nat} {x4 : Int32} (hK75 : ∀ a0 a1 a2 a3 a4 a5, zEq zClP z0 a5 → zPr zClP z0 (K75 a0 a1 a2 a3 a4 a5)) (h : zEq zClP z0 z) : zPr zClP z0 (fX19_doorTurn_75b N K75 x0 x1 x2 x3 x4 z) := by
  unfold fX19_doorTurn_75b
  exact zp_i (zp_c (pX14_persist  h) (fun _ z3 h1 => pX19_doorTurn_118  _ _ _ _ _ h1)) (zp_c (pX19_say  h) (fun _ z7 h2 => zp_c (pX19_send  h2) (fun r10 z11 h3 => hK75 _ _ _ _ _ _ h3)))
theorem pX19_doorTurn_75 {z0 : St} {N : Nat} : ∀ (n : Nat) (y0 : Nat) (y1 : Nat) (y2 : Nat) (y3 : Nat) (y4 : Int32) (z : St), zEq zClP z0 z → zPr zClP z0 (fX19_doorTurn_75 N n y0 y1 y2 y3 y4 z) := by
  intro n
  induction n with
  | zero => intro y0 y1 y2 y3 y4 z h; exact zp_n
  | succ n ih => intro y0 y1 y2 y3 y4 z h; exact pX19_doorTurn_75b  (fun _ _ _ _ _ _ h => ih _ _ _ _ _ _ h) h
theorem pX19_doorTurn_68 {z0 z : St} {N : Nat} {x0 : Nat} {x1 : Nat} {x2 : Nat} {x3 : Nat} (h : zEq zClP z0 z) : zPr zClP z0 (fX19_doorTurn_68 N x0 x1 x2 x3 z) := by
  unfold fX19_doorTurn_68
  exact zp_c (pX19_send  h) (fun r1 z2 h1 => pX19_doorTurn_75  _ _ _ _ _ _ _ h1)
theorem pX19_doorTurn_42 {z0 z : St} {N : Nat} {x0 : Nat} {x1 : Nat} {x2 : Nat} {x3 : Nat} (h : zEq zClP z0 z) : zPr zClP z0 (fX19_doorTurn_42 N x0 x1 x2 x3 z) := by
  unfold fX19_doorTurn_42
  exact zp_i (pX19_doorTurn_68  h) (zp_i (pX19_doorTurn_68  h) (zp_c (pX14_ring  h) (fun _ z4 h1 => pX19_doorTurn_68  h1)))
theorem pX19_doorTurn {z0 z : St} {N : Nat} {x0 : Nat} {x1 : Nat} {x2 : Nat} (h : zEq zClP z0 z) : zPr zClP z0 (fX19_doorTurn N x0 x1 x2 z) := by
  unfold fX19_doorTurn
  exact zp_i (zp_l (fun y2 => zp_d (fun a3 => zp_i (pX19_doorTurn_42  h) (zp_i (pX19_doorTurn_42  h) (zp_c (pX14_become  h) (fun _ z7 h1 => pX19_doorTurn_42  h1)))))) (zp_s h)
theorem pX19_tick_168 {z0 z : St} {N : Nat} {K16 : Nat → Int32 → St → Option (Int32 × St)} {x0 : Nat} {x1 : Int32} (hK16 : ∀ a0 a1 a2, zEq zClP z0 a2 → zPr zClP z0 (K16 a0 a1 a2)) (h : zEq zClP z0 z) : zPr zClP z0 (fX19_tick_168 N K16 x0 x1 z) := by
  unfold fX19_tick_168
  exact zp_l (fun v1 => hK16 _ _ _ h)
theorem pX19_tick_145b {z0 z : St} {N : Nat} {K16 : Nat → Int32 → St → Option (Int32 × St)} {K145 : Nat → Int32 → Nat → Int32 → St → Option (Int32 × St)} {x0 : Nat} {x1 : Int32} {x2 : Nat} {x3 : Int32} (hK16 : ∀ a0 a1 a2, zEq zClP z0 a2 → zPr zClP z0 (K16 a0 a1 a2)) (hK145 : ∀ a0 a1 a2 a3 a4, zEq zClP z0 a4 → zPr zClP z0 (K145 a0 a1 a2 a3 a4)) (h : zEq zClP z0 z) : zPr zClP z0 (fX19_tick_145b N K16 K145 x0 x1 x2 x3 z) := by
  unfold fX19_tick_145b
  exact zp_i (pX19_tick_168 hK16 h) (zp_k (zp_l (fun y3 => zp_d (fun a4 => zp_c (pX19_doorTurn  h) (fun _ z6 h1 => zp_l (fun v9 => hK145 _ _ _ _ _ h1))))))
theorem pX19_tick_145 {z0 : St} {N : Nat} {K16 : Nat → Int32 → St → Option (Int32 × St)} (hK16 : ∀ a0 a1 a2, zEq zClP z0 a2 → zPr zClP z0 (K16 a0 a1 a2)) : ∀ (n : Nat) (y0 : Nat) (y1 : Int32) (y2 : Nat) (y3 : Int32) (z : St), zEq zClP z0 z → zPr zClP z0 (fX19_tick_145 N K16 n y0 y1 y2 y3 z) := by
  intro n
  induction n with
  | zero => intro y0 y1 y2 y3 z h; exact zp_n
  | succ n ih => intro y0 y1 y2 y3 z h; exact pX19_tick_145b hK16 (fun _ _ _ _ _ h => ih _ _ _ _ _ h) h
theorem pX19_tick_59b {z0 z : St} {N : Nat} {K16 : Nat → Int32 → St → Option (Int32 × St)} {K59 : Nat → Int32 → Nat → Int32 → St → Option (Int32 × St)} {x0 : Nat} {x1 : Int32} {x2 : Nat} {x3 : Int32} (hK16 : ∀ a0 a1 a2, zEq zClP z0 a2 → zPr zClP z0 (K16 a0 a1 a2)) (hK59 : ∀ a0 a1 a2 a3 a4, zEq zClP z0 a4 → zPr zClP z0 (K59 a0 a1 a2 a3 a4)) (h : zEq zClP z0 z) : zPr zClP z0 (fX19_tick_59b N K16 K59 x0 x1 x2 x3 z) := by
  unfold fX19_tick_59b
  exact zp_i (zp_i (pX19_tick_145 hK16 _ _ _ _ _ _ h) (zp_c (pX19_neighbours  h) (fun _ z4 h1 => zp_c (pX19_base  h1) (fun _ z8 h2 => zp_c (pX19_ownAdvert  h2) (fun _ z12 h3 => zp_c (pX19_routerSpeaks  h3) (fun _ z16 h4 => zp_c (pX19_ways  h4) (fun _ z20 h5 => pX19_tick_168 hK16 h5))))))) (zp_k (zp_l (fun y24 => zp_d (fun a25 => zp_i (zp_l (fun v27 => hK59 _ _ _ _ _ h)) (zp_c (pX19_endPieces  h) (fun _ z29 h6 => zp_c (pX19_stir  h6) (fun _ z33 h7 => hK59 _ _ _ _ _ h7)))))))
theorem pX19_tick_59 {z0 : St} {N : Nat} {K16 : Nat → Int32 → St → Option (Int32 × St)} (hK16 : ∀ a0 a1 a2, zEq zClP z0 a2 → zPr zClP z0 (K16 a0 a1 a2)) : ∀ (n : Nat) (y0 : Nat) (y1 : Int32) (y2 : Nat) (y3 : Int32) (z : St), zEq zClP z0 z → zPr zClP z0 (fX19_tick_59 N K16 n y0 y1 y2 y3 z) := by
  intro n
  induction n with
  | zero => intro y0 y1 y2 y3 z h; exact zp_n
  | succ n ih => intro y0 y1 y2 y3 z h; exact pX19_tick_59b hK16 (fun _ _ _ _ _ h => ih _ _ _ _ _ h) h
theorem pX19_tick_33b {z0 z : St} {N : Nat} {K16 : Nat → Int32 → St → Option (Int32 × St)} {K33 : Nat → Int32 → Option Nat → Int32 → St → Option (Int32 × St)} {x0 : Nat} {x1 : Int32} {x2 : Option Nat} {x3 : Int32} (hK16 : ∀ a0 a1 a2, zEq zClP z0 a2 → zPr zClP z0 (K16 a0 a1 a2)) (hK33 : ∀ a0 a1 a2 a3 a4, zEq zClP z0 a4 → zPr zClP z0 (K33 a0 a1 a2 a3 a4)) (h : zEq zClP z0 z) : zPr zClP z0 (fX19_tick_33b N K16 K33 x0 x1 x2 x3 z) := by
  unfold fX19_tick_33b
  exact zp_d (fun a1 => zp_i (pX19_tick_59 hK16 _ _ _ _ _ _ h) (zp_k (zp_l (fun y4 => zp_d (fun a5 => zp_c (pX19_askings  h) (fun _ z7 h1 => zp_l (fun v10 => hK33 _ _ _ _ _ h1)))))))
theorem pX19_tick_33 {z0 : St} {N : Nat} {K16 : Nat → Int32 → St → Option (Int32 × St)} (hK16 : ∀ a0 a1 a2, zEq zClP z0 a2 → zPr zClP z0 (K16 a0 a1 a2)) : ∀ (n : Nat) (y0 : Nat) (y1 : Int32) (y2 : Option Nat) (y3 : Int32) (z : St), zEq zClP z0 z → zPr zClP z0 (fX19_tick_33 N K16 n y0 y1 y2 y3 z) := by
  intro n
  induction n with
  | zero => intro y0 y1 y2 y3 z h; exact zp_n
  | succ n ih => intro y0 y1 y2 y3 z h; exact pX19_tick_33b hK16 (fun _ _ _ _ _ h => ih _ _ _ _ _ h) h
theorem pX19_tick_16b {z0 z : St} {N : Nat} {K16 : Nat → Int32 → St → Option (Int32 × St)} {x0 : Nat} {x1 : Int32} (hK16 : ∀ a0 a1 a2, zEq zClP z0 a2 → zPr zClP z0 (K16 a0 a1 a2)) (h : zEq zClP z0 z) : zPr zClP z0 (fX19_tick_16b N K16 x0 x1 z) := by
  unfold fX19_tick_16b
  exact zp_i (zp_s h) (zp_k (zp_l (fun y3 => pX19_tick_33 hK16 _ _ _ _ _ _ h)))
theorem pX19_tick_16 {z0 : St} {N : Nat} : ∀ (n : Nat) (y0 : Nat) (y1 : Int32) (z : St), zEq zClP z0 z → zPr zClP z0 (fX19_tick_16 N n y0 y1 z) := by
  intro n
  induction n with
  | zero => intro y0 y1 z h; exact zp_n
  | succ n ih => intro y0 y1 z h; exact pX19_tick_16b  (fun _ _ _ h => ih _ _ _ h) h
theorem pX19_tick {z0 z : St} {N : Nat} {x0 : Nat} (h : zEq zClP z0 z) : zPr zClP z0 (fX19_tick N x0 z) := by
  unfold fX19_tick
  exact zp_lI h rfl (fun z1 h1 => zp_c (pX19_arriveAll  h1) (fun _ z3 h2 => pX19_tick_16  _ _ _ _ h2))
theorem pX19_isBox {z0 z : St} {N : Nat} {x0 : Nat} {x1 : Int32} (h : zEq zClP z0 z) : zPr zClP z0 (fX19_isBox N x0 x1 z) := by
  unfold fX19_isBox
  exact zp_i (zp_s h) (zp_i (zp_s h) (zp_s h))
theorem pX19_isHost {z0 z : St} {N : Nat} {x0 : Nat} {x1 : Int32} (h : zEq zClP z0 z) : zPr zClP z0 (fX19_isHost N x0 x1 z) := by
  unfold fX19_isHost
  exact zp_c (pX19_isBox  h) (fun r1 z2 h1 => zp_i (zp_s h1) (zp_k (zp_l (fun y7 => zp_d (fun a8 => zp_i (zp_s h1) (zp_s h1))))))
theorem pX19_isRouter {z0 z : St} {N : Nat} {x0 : Nat} {x1 : Int32} (h : zEq zClP z0 z) : zPr zClP z0 (fX19_isRouter N x0 x1 z) := by
  unfold fX19_isRouter
  exact zp_c (pX19_isBox  h) (fun r1 z2 h1 => zp_i (zp_s h1) (zp_k (zp_l (fun y7 => zp_d (fun a8 => zp_i (zp_s h1) (zp_s h1))))))
theorem pX19_isNet {z0 z : St} {N : Nat} {x0 : Nat} {x1 : Int32} (h : zEq zClP z0 z) : zPr zClP z0 (fX19_isNet N x0 x1 z) := by
  unfold fX19_isNet
  exact zp_i (zp_s h) (zp_i (zp_s h) (zp_s h))
theorem pX19_isDoor {z0 z : St} {N : Nat} {x0 : Nat} {x1 : Int32} {x2 : Int32} (h : zEq zClP z0 z) : zPr zClP z0 (fX19_isDoor N x0 x1 x2 z) := by
  unfold fX19_isDoor
  exact zp_c (pX19_isHost  h) (fun r1 z2 h1 => zp_i (zp_s h1) (zp_i (zp_s h1) (zp_i (zp_s h1) (zp_s h1))))
theorem pX19_fails_18 {z0 z : St} {N : Nat} {x0 : Nat} {s0 : Nat} {s1 : Int32} (h : zEq zClP z0 z) : zPr zClP z0 (fX19_fails_18 N x0 s0 s1 z) := by
  unfold fX19_fails_18
  exact zp_lI h rfl (fun z1 h1 => zp_i (zp_s h1) (zp_s h1))
theorem pX19_fails {z0 z : St} {N : Nat} {x0 : Nat} {x1 : Int32} {x2 : Int32} (h : zEq zClP z0 z) : zPr zClP z0 (fX19_fails N x0 x1 x2 z) := by
  unfold fX19_fails
  exact zp_i (zp_i (pX19_fails_18  h) (pX19_fails_18  h)) (pX19_fails_18  h)
theorem pX19_portOn_10b {z0 z : St} {N : Nat} {K10 : Int32 → Option Nat → Int32 → St → Option (Option Nat × St)} {x2 : Int32} {x3 : Option Nat} {x4 : Int32} (hK10 : ∀ a0 a1 a2 a3, zEq zClP z0 a3 → zPr zClP z0 (K10 a0 a1 a2 a3)) (h : zEq zClP z0 z) : zPr zClP z0 (fX19_portOn_10b N K10 x2 x3 x4 z) := by
  unfold fX19_portOn_10b
  exact zp_d (fun a1 => zp_i (zp_s h) (zp_k (zp_l (fun y4 => zp_d (fun a5 => zp_l (fun y6 => zp_d (fun a7 => zp_i (zp_l (fun v9 => hK10 _ _ _ _ h)) (zp_k (zp_l (fun y11 => zp_s h))))))))))
theorem pX19_portOn_10 {z0 : St} {N : Nat} : ∀ (n : Nat) (y0 : Int32) (y1 : Option Nat) (y2 : Int32) (z : St), zEq zClP z0 z → zPr zClP z0 (fX19_portOn_10 N n y0 y1 y2 z) := by
  intro n
  induction n with
  | zero => intro y0 y1 y2 z h; exact zp_n
  | succ n ih => intro y0 y1 y2 z h; exact pX19_portOn_10b  (fun _ _ _ _ h => ih _ _ _ _ h) h
theorem pX19_portOn {z0 z : St} {N : Nat} {x0 : Nat} {x1 : Int32} {x2 : Int32} (h : zEq zClP z0 z) : zPr zClP z0 (fX19_portOn N x0 x1 x2 z) := by
  unfold fX19_portOn
  exact zp_k (zp_l (fun y2 => pX19_portOn_10  _ _ _ _ _ h))
theorem pX19_cost_43 {z0 z : St} {N : Nat} {x0 : Nat} {x1 : Int32} {x2 : Int32} {x3 : Int32} {s0 : Nat} {s1 : Int32} (h : zEq zClP z0 z) : zPr zClP z0 (fX19_cost_43 N x0 x1 x2 x3 s0 s1 z) := by
  unfold fX19_cost_43
  exact zp_c (pX19_fails  h) (fun r1 z2 h1 => zp_i (zp_c (pX19_portOn  h1) (fun r6 z7 h2 => zp_d (fun a10 => zp_l (fun v11 => zp_lI h2 rfl (fun z12 h3 => zp_l (fun y13 => zp_d (fun a14 => zp_lI h3 rfl (fun z15 h4 => zp_l (fun y16 => zp_d (fun a17 => zp_lI h4 rfl (fun z18 h5 => zp_i (zp_s h5) (zp_c (pX19_stir  h5) (fun _ z21 h6 => zp_s h6))))))))))))) (zp_s h1))
theorem pX19_cost_38 {z0 z : St} {N : Nat} {x0 : Nat} {x1 : Int32} {x2 : Int32} {x3 : Int32} {s0 : Nat} (h : zEq zClP z0 z) : zPr zClP z0 (fX19_cost_38 N x0 x1 x2 x3 s0 z) := by
  unfold fX19_cost_38
  exact pX19_cost_43  h
theorem pX19_cost {z0 z : St} {N : Nat} {x0 : Nat} {x1 : Int32} {x2 : Int32} {x3 : Int32} (h : zEq zClP z0 z) : zPr zClP z0 (fX19_cost N x0 x1 x2 x3 z) := by
  unfold fX19_cost
  exact zp_c (pX19_isRouter  h) (fun r1 z2 h1 => zp_i (pX19_cost_38  h1) (zp_c (pX19_isNet  h1) (fun r6 z7 h2 => zp_i (pX19_cost_38  h2) (zp_c (pX19_portOn  h2) (fun r11 z12 h3 => zp_o (pX19_cost_38  h3) (fun a16 => zp_i (pX19_cost_38  h3) (zp_i (pX19_cost_43  h3) (pX19_cost_38  h3))))))))
theorem pX19_link_112 {z0 z : St} {N : Nat} {K53 : Nat → Int32 → Int32 → Int32 → Int32 → St → Option (Int32 × St)} {x0 : Nat} {x1 : Int32} {x2 : Int32} {x4 : Int32} {x5 : Int32} (hK53 : ∀ a0 a1 a2 a3 a4 a5, zEq zClP z0 a5 → zPr zClP z0 (K53 a0 a1 a2 a3 a4 a5)) (h : zEq zClP z0 z) : zPr zClP z0 (fX19_link_112 N K53 x0 x1 x2 x4 x5 z) := by
  unfold fX19_link_112
  exact hK53 _ _ _ _ _ _ h
theorem pX19_link_121 {z0 z : St} {N : Nat} {x0 : Nat} {x4 : Int32} (h : zEq zClP z0 z) : zPr zClP z0 (fX19_link_121 N x0 x4 z) := by
  unfold fX19_link_121
  exact zp_i (zp_q (zp_s h)) (zp_c (pX19_stir  h) (fun _ z4 h1 => zp_q (zp_s h1)))
theorem pX19_link_53b {z0 z : St} {N : Nat} {K53 : Nat → Int32 → Int32 → Int32 → Int32 → St → Option (Int32 × St)} {x0 : Nat} {x1 : Int32} {x2 : Int32} {x4 : Int32} {x5 : Int32} (hK53 : ∀ a0 a1 a2 a3 a4 a5, zEq zClP z0 a5 → zPr zClP z0 (K53 a0 a1 a2 a3 a4 a5)) (h : zEq zClP z0 z) : zPr zClP z0 (fX19_link_53b N K53 x0 x1 x2 x4 x5 z) := by
  unfold fX19_link_53b
  exact zp_i (pX19_link_121  h) (zp_i (pX19_link_121  h) (zp_k (zp_i (zp_l (fun v5 => hK53 _ _ _ _ _ _ h)) (zp_k (zp_l (fun v7 => zp_c (pX19_takeFrame  h) (fun _ z9 h1 => zp_i (pX19_link_112 hK53 h1) (zp_c (pX19_drop  h1) (fun _ z14 h2 => pX19_link_112 hK53 h2)))))))))
theorem pX19_link_53 {z0 : St} {N : Nat} : ∀ (n : Nat) (y0 : Nat) (y1 : Int32) (y2 : Int32) (y3 : Int32) (y4 : Int32) (z : St), zEq zClP z0 z → zPr zClP z0 (fX19_link_53 N n y0 y1 y2 y3 y4 z) := by
  intro n
  induction n with
  | zero => intro y0 y1 y2 y3 y4 z h; exact zp_n
  | succ n ih => intro y0 y1 y2 y3 y4 z h; exact pX19_link_53b  (fun _ _ _ _ _ _ h => ih _ _ _ _ _ _ h) h
theorem pX19_link_43 {z0 z : St} {N : Nat} {x0 : Nat} {x1 : Int32} {x2 : Int32} {x3 : Nat} {s0 : Int32} (h : zEq zClP z0 z) : zPr zClP z0 (fX19_link_43 N x0 x1 x2 x3 s0 z) := by
  unfold fX19_link_43
  exact zp_q (zp_lI h rfl (fun z1 h1 => pX19_link_53  _ _ _ _ _ _ _ h1))
theorem pX19_link_14 {z0 z : St} {N : Nat} {x0 : Nat} {x1 : Int32} {x2 : Int32} {s0 : Nat} {s1 : Int32} (h : zEq zClP z0 z) : zPr zClP z0 (fX19_link_14 N x0 x1 x2 s0 s1 z) := by
  unfold fX19_link_14
  exact zp_c (pX19_fails  h) (fun r1 z2 h1 => zp_i (zp_k (zp_l (fun y7 => zp_d (fun a8 => zp_i (pX19_link_43  h1) (pX19_link_43  h1))))) (zp_s h1))
theorem pX19_link {z0 z : St} {N : Nat} {x0 : Nat} {x1 : Int32} {x2 : Int32} (h : zEq zClP z0 z) : zPr zClP z0 (fX19_link N x0 x1 x2 z) := by
  unfold fX19_link
  exact zp_c (pX19_isNet  h) (fun r1 z2 h1 => zp_i (pX19_link_14  h1) (pX19_link_14  h1))
theorem pX19_fates_76b {z0 z : St} {N : Nat} {K76 : Int64 → Int32 → Option Nat → Int32 → St → Option (Int32 × St)} {x2 : Int64} {x4 : Int32} {x5 : Option Nat} {x6 : Int32} (hK76 : ∀ a0 a1 a2 a3 a4, zEq zClP z0 a4 → zPr zClP z0 (K76 a0 a1 a2 a3 a4)) (h : zEq zClP z0 z) : zPr zClP z0 (fX19_fates_76b N K76 x2 x4 x5 x6 z) := by
  unfold fX19_fates_76b
  exact zp_i (zp_d (fun a2 => zp_s h)) (zp_d (fun a3 => zp_k (zp_lA h rfl (fun z5 h1 => zp_lI h1 rfl (fun z6 h2 => zp_l (fun v7 => hK76 _ _ _ _ _ h2))))))
theorem pX19_fates_76 {z0 : St} {N : Nat} : ∀ (n : Nat) (y0 : Int64) (y1 : Int32) (y2 : Option Nat) (y3 : Int32) (z : St), zEq zClP z0 z → zPr zClP z0 (fX19_fates_76 N n y0 y1 y2 y3 z) := by
  intro n
  induction n with
  | zero => intro y0 y1 y2 y3 z h; exact zp_n
  | succ n ih => intro y0 y1 y2 y3 z h; exact pX19_fates_76b  (fun _ _ _ _ _ h => ih _ _ _ _ _ h) h
theorem pX19_fates_57 {z0 z : St} {N : Nat} {x0 : Nat} {x1 : Int32} {x2 : Int64} {x4 : Int32} {s0 : Nat} {s1 : Int32} {s2 : Int32} (h : zEq zClP z0 z) : zPr zClP z0 (fX19_fates_57 N x0 x1 x2 x4 s0 s1 s2 z) := by
  unfold fX19_fates_57
  exact zp_c (pX19_fails  h) (fun r1 z2 h1 => zp_i (zp_k (zp_l (fun y7 => pX19_fates_76  _ _ _ _ _ _ h1))) (zp_s h1))
theorem pX19_fates_56 {z0 z : St} {N : Nat} {x0 : Nat} {x1 : Int32} {x2 : Int64} {x4 : Int32} {s0 : Nat} {s1 : Int32} (h : zEq zClP z0 z) : zPr zClP z0 (fX19_fates_56 N x0 x1 x2 x4 s0 s1 z) := by
  unfold fX19_fates_56
  exact pX19_fates_57  h
theorem pX19_fates_27 {z0 z : St} {N : Nat} {x0 : Nat} {x1 : Int32} {x2 : Int64} {x4 : Int32} {s0 : Nat} {s1 : Int32} (h : zEq zClP z0 z) : zPr zClP z0 (fX19_fates_27 N x0 x1 x2 x4 s0 s1 z) := by
  unfold fX19_fates_27
  exact zp_c (pX19_isNet  h) (fun r1 z2 h1 => zp_i (pX19_fates_56  h1) (zp_k (zp_l (fun y7 => zp_d (fun a8 => zp_i (pX19_fates_56  h1) (pX19_fates_57  h1))))))
theorem pX19_fates_22 {z0 z : St} {N : Nat} {x0 : Nat} {x1 : Int32} {x2 : Int64} {x4 : Int32} {s0 : Nat} (h : zEq zClP z0 z) : zPr zClP z0 (fX19_fates_22 N x0 x1 x2 x4 s0 z) := by
  unfold fX19_fates_22
  exact pX19_fates_27  h
theorem pX19_fates {z0 z : St} {N : Nat} {x0 : Nat} {x1 : Int32} {x2 : Int64} {x4 : Int32} (h : zEq zClP z0 z) : zPr zClP z0 (fX19_fates N x0 x1 x2 x4 z) := by
  unfold fX19_fates
  exact zp_c (pX19_isNet  h) (fun r1 z2 h1 => zp_i (pX19_fates_22  h1) (zp_i (pX19_fates_22  h1) (zp_i (pX19_fates_27  h1) (pX19_fates_22  h1))))
theorem pX19_run_45b {z0 z : St} {N : Nat} {K45 : Nat → Int32 → Int32 → St → Option (Int32 × St)} {x0 : Nat} {x1 : Int32} {x2 : Int32} (hK45 : ∀ a0 a1 a2 a3, zEq zClP z0 a3 → zPr zClP z0 (K45 a0 a1 a2 a3)) (h : zEq zClP z0 z) : zPr zClP z0 (fX19_run_45b N K45 x0 x1 x2 z) := by
  unfold fX19_run_45b
  exact zp_i (zp_s h) (zp_c (pX19_tick  h) (fun _ z3 h1 => zp_l (fun v6 => hK45 _ _ _ _ h1)))
theorem pX19_run_45 {z0 : St} {N : Nat} : ∀ (n : Nat) (y0 : Nat) (y1 : Int32) (y2 : Int32) (z : St), zEq zClP z0 z → zPr zClP z0 (fX19_run_45 N n y0 y1 y2 z) := by
  intro n
  induction n with
  | zero => intro y0 y1 y2 z h; exact zp_n
  | succ n ih => intro y0 y1 y2 z h; exact pX19_run_45b  (fun _ _ _ _ h => ih _ _ _ _ h) h
theorem pX19_run_35 {z0 z : St} {N : Nat} {x0 : Nat} {x1 : Int32} {s0 : Nat} {s1 : Int32} {s2 : Int32} (h : zEq zClP z0 z) : zPr zClP z0 (fX19_run_35 N x0 x1 s0 s1 s2 z) := by
  unfold fX19_run_35
  exact zp_c (pX19_fails  h) (fun r1 z2 h1 => zp_i (pX19_run_45  _ _ _ _ _ h1) (zp_s h1))
theorem pX19_run_18 {z0 z : St} {N : Nat} {x0 : Nat} {x1 : Int32} {s0 : Nat} {s1 : Int32} (h : zEq zClP z0 z) : zPr zClP z0 (fX19_run_18 N x0 x1 s0 s1 z) := by
  unfold fX19_run_18
  exact zp_i (pX19_run_35  h) (pX19_run_35  h)
theorem pX19_run_13 {z0 z : St} {N : Nat} {x0 : Nat} {x1 : Int32} {s0 : Nat} (h : zEq zClP z0 z) : zPr zClP z0 (fX19_run_13 N x0 x1 s0 z) := by
  unfold fX19_run_13
  exact pX19_run_18  h
theorem pX19_run {z0 z : St} {N : Nat} {x0 : Nat} {x1 : Int32} (h : zEq zClP z0 z) : zPr zClP z0 (fX19_run N x0 x1 z) := by
  unfold fX19_run
  exact zp_i (pX19_run_13  h) (zp_i (pX19_run_18  h) (pX19_run_13  h))
theorem pX19_listen_105 {z0 z : St} {N : Nat} {K59 : Nat → Int32 → Int32 → Option Nat → Int32 → Int32 → St → Option (Int32 × St)} {x0 : Nat} {x2 : Int32} {x3 : Int32} {x4 : Option Nat} {x6 : Int32} {s0 : Int32} (hK59 : ∀ a0 a1 a2 a3 a4 a5 a6, zEq zClP z0 a6 → zPr zClP z0 (K59 a0 a1 a2 a3 a4 a5 a6)) (h : zEq zClP z0 z) : zPr zClP z0 (fX19_listen_105 N K59 x0 x2 x3 x4 x6 s0 z) := by
  unfold fX19_listen_105
  exact zp_l (fun v1 => hK59 _ _ _ _ _ _ _ h)
theorem pX19_listen_100 {z0 z : St} {N : Nat} {K59 : Nat → Int32 → Int32 → Option Nat → Int32 → Int32 → St → Option (Int32 × St)} {x0 : Nat} {x2 : Int32} {x3 : Int32} {x4 : Option Nat} {x6 : Int32} (hK59 : ∀ a0 a1 a2 a3 a4 a5 a6, zEq zClP z0 a6 → zPr zClP z0 (K59 a0 a1 a2 a3 a4 a5 a6)) (h : zEq zClP z0 z) : zPr zClP z0 (fX19_listen_100 N K59 x0 x2 x3 x4 x6 z) := by
  unfold fX19_listen_100
  exact pX19_listen_105 hK59 h
theorem pX19_listen_104 {z0 z : St} {N : Nat} {K59 : Nat → Int32 → Int32 → Option Nat → Int32 → Int32 → St → Option (Int32 × St)} {x0 : Nat} {x2 : Int32} {x3 : Int32} {x4 : Nat} {x6 : Int32} (hK59 : ∀ a0 a1 a2 a3 a4 a5 a6, zEq zClP z0 a6 → zPr zClP z0 (K59 a0 a1 a2 a3 a4 a5 a6)) (h : zEq zClP z0 z) : zPr zClP z0 (fX19_listen_104 N K59 x0 x2 x3 x4 x6 z) := by
  unfold fX19_listen_104
  exact pX19_listen_105 hK59 h
theorem pX19_listen_138 {z0 z : St} {N : Nat} {x0 : Nat} {x2 : Int32} {x3 : Int32} {x4 : Nat} {x6 : Int32} {s0 : Nat} {s1 : Int32} {s2 : Int32} (h : zEq zClP z0 z) : zPr zClP z0 (fX19_listen_138 N x0 x2 x3 x4 x6 s0 s1 s2 z) := by
  unfold fX19_listen_138
  exact zp_c (pX19_fails  h) (fun r1 z2 h1 => zp_i (zp_k (zp_l (fun y7 => zp_d (fun a8 => zp_lI h1 rfl (fun z9 h2 => zp_k (zp_l (fun y11 => zp_d (fun a12 => zp_lI h2 rfl (fun z13 h3 => zp_k (zp_l (fun y15 => zp_d (fun a16 => zp_lI h3 rfl (fun z17 h4 => zp_c (pX19_stir  h4) (fun _ z19 h5 => zp_s h5)))))))))))))) (zp_s h1))
theorem pX19_listen_133 {z0 z : St} {N : Nat} {x0 : Nat} {x2 : Int32} {x3 : Int32} {x4 : Nat} {x6 : Int32} {s0 : Nat} {s1 : Int32} (h : zEq zClP z0 z) : zPr zClP z0 (fX19_listen_133 N x0 x2 x3 x4 x6 s0 s1 z) := by
  unfold fX19_listen_133
  exact pX19_listen_138  h
theorem pX19_listen_59b {z0 z : St} {N : Nat} {K59 : Nat → Int32 → Int32 → Option Nat → Int32 → Int32 → St → Option (Int32 × St)} {x0 : Nat} {x2 : Int32} {x3 : Int32} {x4 : Option Nat} {x5 : Int32} {x6 : Int32} (hK59 : ∀ a0 a1 a2 a3 a4 a5 a6, zEq zClP z0 a6 → zPr zClP z0 (K59 a0 a1 a2 a3 a4 a5 a6)) (h : zEq zClP z0 z) : zPr zClP z0 (fX19_listen_59b N K59 x0 x2 x3 x4 x5 x6 z) := by
  unfold fX19_listen_59b
  exact zp_i (zp_d (fun a2 => zp_c (pX19_leastFree  h) (fun r3 z4 h1 => zp_i (pX19_listen_133  h1) (zp_i (pX19_listen_138  h1) (pX19_listen_133  h1))))) (zp_i (pX19_listen_100 hK59 h) (zp_d (fun a10 => zp_k (zp_l (fun y12 => zp_d (fun a13 => zp_i (pX19_listen_104 hK59 h) (zp_k (zp_l (fun y16 => zp_d (fun a17 => zp_i (pX19_listen_104 hK59 h) (pX19_listen_100 hK59 h)))))))))))
theorem pX19_listen_59 {z0 : St} {N : Nat} : ∀ (n : Nat) (y0 : Nat) (y1 : Int32) (y2 : Int32) (y3 : Option Nat) (y4 : Int32) (y5 : Int32) (z : St), zEq zClP z0 z → zPr zClP z0 (fX19_listen_59 N n y0 y1 y2 y3 y4 y5 z) := by
  intro n
  induction n with
  | zero => intro y0 y1 y2 y3 y4 y5 z h; exact zp_n
  | succ n ih => intro y0 y1 y2 y3 y4 y5 z h; exact pX19_listen_59b  (fun _ _ _ _ _ _ _ h => ih _ _ _ _ _ _ _ h) h
theorem pX19_listen_36 {z0 z : St} {N : Nat} {x0 : Nat} {x1 : Int32} {x2 : Int32} {x3 : Int32} {s0 : Nat} {s1 : Int32} (h : zEq zClP z0 z) : zPr zClP z0 (fX19_listen_36 N x0 x1 x2 x3 s0 s1 z) := by
  unfold fX19_listen_36
  exact zp_c (pX19_fails  h) (fun r1 z2 h1 => zp_i (zp_k (zp_l (fun y7 => pX19_listen_59  _ _ _ _ _ _ _ _ h1))) (zp_s h1))
theorem pX19_listen_31 {z0 z : St} {N : Nat} {x0 : Nat} {x1 : Int32} {x2 : Int32} {x3 : Int32} {s0 : Nat} (h : zEq zClP z0 z) : zPr zClP z0 (fX19_listen_31 N x0 x1 x2 x3 s0 z) := by
  unfold fX19_listen_31
  exact pX19_listen_36  h
theorem pX19_listen {z0 z : St} {N : Nat} {x0 : Nat} {x1 : Int32} {x2 : Int32} {x3 : Int32} (h : zEq zClP z0 z) : zPr zClP z0 (fX19_listen N x0 x1 x2 x3 z) := by
  unfold fX19_listen
  exact zp_c (pX19_isHost  h) (fun r1 z2 h1 => zp_i (pX19_listen_31  h1) (zp_i (pX19_listen_31  h1) (zp_i (pX19_listen_31  h1) (zp_i (pX19_listen_31  h1) (zp_i (pX19_listen_36  h1) (pX19_listen_31  h1))))))
theorem pX19_open_96 {z0 z : St} {N : Nat} {x0 : Nat} {x2 : Int32} {x3 : Int32} {x4 : Nat} {x5 : Int32} {s0 : Nat} {s1 : Int32} {s2 : Int32} (h : zEq zClP z0 z) : zPr zClP z0 (fX19_open_96 N x0 x2 x3 x4 x5 s0 s1 s2 z) := by
  unfold fX19_open_96
  exact zp_c (pX19_fails  h) (fun r1 z2 h1 => zp_i (zp_k (zp_l (fun y7 => zp_d (fun a8 => zp_c (pX19_giveEnd  h1) (fun _ z10 h2 => zp_lI h2 rfl (fun z13 h3 => zp_k (zp_l (fun y15 => zp_d (fun a16 => zp_l (fun y17 => zp_d (fun a18 => zp_lI h3 rfl (fun z19 h4 => zp_lI h4 rfl (fun z20 h5 => zp_lI h5 rfl (fun z21 h6 => zp_c (pX19_stir  h6) (fun _ z23 h7 => zp_s h7))))))))))))))) (zp_s h1))
theorem pX19_open_91 {z0 z : St} {N : Nat} {x0 : Nat} {x2 : Int32} {x3 : Int32} {x4 : Nat} {x5 : Int32} {s0 : Nat} {s1 : Int32} (h : zEq zClP z0 z) : zPr zClP z0 (fX19_open_91 N x0 x2 x3 x4 x5 s0 s1 z) := by
  unfold fX19_open_91
  exact pX19_open_96  h
theorem pX19_open_40 {z0 z : St} {N : Nat} {x0 : Nat} {x1 : Int32} {x2 : Int32} {x3 : Int32} {s0 : Nat} {s1 : Int32} (h : zEq zClP z0 z) : zPr zClP z0 (fX19_open_40 N x0 x1 x2 x3 s0 s1 z) := by
  unfold fX19_open_40
  exact zp_c (pX19_fails  h) (fun r1 z2 h1 => zp_i (zp_k (zp_l (fun y7 => zp_d (fun a8 => zp_c (pX19_leastFree  h1) (fun r9 z10 h2 => zp_i (pX19_open_91  h2) (zp_i (pX19_open_91  h2) (zp_i (pX19_open_96  h2) (pX19_open_91  h2)))))))) (zp_s h1))
theorem pX19_open_35 {z0 z : St} {N : Nat} {x0 : Nat} {x1 : Int32} {x2 : Int32} {x3 : Int32} {s0 : Nat} (h : zEq zClP z0 z) : zPr zClP z0 (fX19_open_35 N x0 x1 x2 x3 s0 z) := by
  unfold fX19_open_35
  exact pX19_open_40  h
theorem pX19_open {z0 z : St} {N : Nat} {x0 : Nat} {x1 : Int32} {x2 : Int32} {x3 : Int32} (h : zEq zClP z0 z) : zPr zClP z0 (fX19_open N x0 x1 x2 x3 z) := by
  unfold fX19_open
  exact zp_c (pX19_isHost  h) (fun r1 z2 h1 => zp_i (pX19_open_35  h1) (zp_i (pX19_open_35  h1) (zp_i (pX19_open_35  h1) (zp_k (zp_l (fun y9 => zp_d (fun a10 => zp_c (pX19_isOwn  h1) (fun r11 z12 h2 => zp_i (pX19_open_40  h2) (pX19_open_35  h2)))))))))
theorem pX19_accept_133 {z0 z : St} {N : Nat} {K56 : Nat → Int32 → Int32 → Int32 → St → Option (Int32 × St)} {x0 : Nat} {x1 : Int32} {x2 : Int32} {x3 : Int32} (hK56 : ∀ a0 a1 a2 a3 a4, zEq zClP z0 a4 → zPr zClP z0 (K56 a0 a1 a2 a3 a4)) (h : zEq zClP z0 z) : zPr zClP z0 (fX19_accept_133 N K56 x0 x1 x2 x3 z) := by
  unfold fX19_accept_133
  exact zp_l (fun v1 => hK56 _ _ _ _ _ h)
theorem pX19_accept_56b {z0 z : St} {N : Nat} {K56 : Nat → Int32 → Int32 → Int32 → St → Option (Int32 × St)} {x0 : Nat} {x1 : Int32} {x2 : Int32} {x3 : Int32} (hK56 : ∀ a0 a1 a2 a3 a4, zEq zClP z0 a4 → zPr zClP z0 (K56 a0 a1 a2 a3 a4)) (h : zEq zClP z0 z) : zPr zClP z0 (fX19_accept_56b N K56 x0 x1 x2 x3 z) := by
  unfold fX19_accept_56b
  exact zp_i (zp_s h) (zp_k (zp_l (fun y3 => zp_d (fun a4 => zp_k (zp_l (fun y6 => zp_d (fun a7 => zp_i (pX19_accept_133 hK56 h) (zp_i (pX19_accept_133 hK56 h) (zp_i (pX19_accept_133 hK56 h) (zp_l (fun y11 => zp_d (fun a12 => zp_i (pX19_accept_133 hK56 h) (zp_l (fun y14 => zp_d (fun a15 => zp_i (pX19_accept_133 hK56 h) (zp_lI h rfl (fun z17 h1 => zp_s h1)))))))))))))))))
theorem pX19_accept_56 {z0 : St} {N : Nat} : ∀ (n : Nat) (y0 : Nat) (y1 : Int32) (y2 : Int32) (y3 : Int32) (z : St), zEq zClP z0 z → zPr zClP z0 (fX19_accept_56 N n y0 y1 y2 y3 z) := by
  intro n
  induction n with
  | zero => intro y0 y1 y2 y3 z h; exact zp_n
  | succ n ih => intro y0 y1 y2 y3 z h; exact pX19_accept_56b  (fun _ _ _ _ _ h => ih _ _ _ _ _ h) h
theorem pX19_accept_46 {z0 z : St} {N : Nat} {x0 : Nat} {x1 : Int32} {x2 : Int32} {s0 : Nat} {s1 : Int32} {s2 : Int32} (h : zEq zClP z0 z) : zPr zClP z0 (fX19_accept_46 N x0 x1 x2 s0 s1 s2 z) := by
  unfold fX19_accept_46
  exact zp_c (pX19_fails  h) (fun r1 z2 h1 => zp_i (pX19_accept_56  _ _ _ _ _ _ h1) (zp_s h1))
theorem pX19_accept_45 {z0 z : St} {N : Nat} {x0 : Nat} {x1 : Int32} {x2 : Int32} {s0 : Nat} {s1 : Int32} (h : zEq zClP z0 z) : zPr zClP z0 (fX19_accept_45 N x0 x1 x2 s0 s1 z) := by
  unfold fX19_accept_45
  exact pX19_accept_46  h
theorem pX19_accept_15 {z0 z : St} {N : Nat} {x0 : Nat} {x1 : Int32} {x2 : Int32} {s0 : Nat} {s1 : Int32} (h : zEq zClP z0 z) : zPr zClP z0 (fX19_accept_15 N x0 x1 x2 s0 s1 z) := by
  unfold fX19_accept_15
  exact zp_c (pX19_isDoor  h) (fun r1 z2 h1 => zp_i (pX19_accept_45  h1) (zp_k (zp_l (fun y7 => zp_d (fun a8 => zp_k (zp_l (fun y10 => zp_d (fun a11 => zp_i (pX19_accept_45  h1) (pX19_accept_46  h1)))))))))
theorem pX19_accept {z0 z : St} {N : Nat} {x0 : Nat} {x1 : Int32} {x2 : Int32} (h : zEq zClP z0 z) : zPr zClP z0 (fX19_accept N x0 x1 x2 z) := by
  unfold fX19_accept
  exact zp_c (pX19_isDoor  h) (fun r1 z2 h1 => zp_i (pX19_accept_15  h1) (pX19_accept_15  h1))
theorem pX19_endAt {z0 z : St} {N : Nat} {x0 : Nat} {x1 : Int32} {x2 : Int32} (h : zEq zClP z0 z) : zPr zClP z0 (fX19_endAt N x0 x1 x2 z) := by
  unfold fX19_endAt
  exact zp_c (pX19_isDoor  h) (fun r1 z2 h1 => zp_i (zp_s h1) (zp_k (zp_l (fun y7 => zp_d (fun a8 => zp_k (zp_l (fun y10 => zp_d (fun a11 => zp_i (zp_s h1) (zp_k (zp_l (fun y14 => zp_d (fun a15 => zp_k (zp_l (fun y17 => zp_d (fun a18 => zp_l (fun y19 => zp_s h1))))))))))))))))
theorem pX19_writes {z0 z : St} {N : Nat} {x0 : Nat} {x1 : Nat} {x2 : Int32} (h : zEq zClP z0 z) : zPr zClP z0 (fX19_writes N x0 x1 x2 z) := by
  unfold fX19_writes
  exact zp_c (pX14_unthanked  h) (fun r1 z2 h1 => zp_i (zp_k (zp_lA h1 rfl (fun z7 h2 => zp_lI h2 rfl (fun z8 h3 => zp_c (pX19_writeDown  h3) (fun _ z10 h4 => zp_s h4))))) (zp_s h1))
theorem pX19_write_100 {z0 z : St} {N : Nat} {x0 : Nat} {x6 : Option Nat} {x7 : Int32} (h : zEq zClP z0 z) : zPr zClP z0 (fX19_write_100 N x0 x6 x7 z) := by
  unfold fX19_write_100
  exact zp_d (fun a1 => zp_c (pX14_persist  h) (fun _ z3 h1 => zp_c (pX19_stir  h1) (fun _ z7 h2 => zp_s h2)))
theorem pX19_write_65b {z0 z : St} {N : Nat} {K65 : Nat → Int64 → Int32 → Option Nat → Int32 → St → Option (Int32 × St)} {x0 : Nat} {x3 : Int64} {x5 : Int32} {x6 : Option Nat} {x7 : Int32} (hK65 : ∀ a0 a1 a2 a3 a4 a5, zEq zClP z0 a5 → zPr zClP z0 (K65 a0 a1 a2 a3 a4 a5)) (h : zEq zClP z0 z) : zPr zClP z0 (fX19_write_65b N K65 x0 x3 x5 x6 x7 z) := by
  unfold fX19_write_65b
  exact zp_i (pX19_write_100  h) (zp_d (fun a2 => zp_c (pX19_writes  h) (fun r3 z4 h1 => zp_i (pX19_write_100  h1) (zp_l (fun v8 => hK65 _ _ _ _ _ _ h1)))))
theorem pX19_write_65 {z0 : St} {N : Nat} : ∀ (n : Nat) (y0 : Nat) (y1 : Int64) (y2 : Int32) (y3 : Option Nat) (y4 : Int32) (z : St), zEq zClP z0 z → zPr zClP z0 (fX19_write_65 N n y0 y1 y2 y3 y4 z) := by
  intro n
  induction n with
  | zero => intro y0 y1 y2 y3 y4 z h; exact zp_n
  | succ n ih => intro y0 y1 y2 y3 y4 z h; exact pX19_write_65b  (fun _ _ _ _ _ _ h => ih _ _ _ _ _ _ h) h
theorem pX19_write_54 {z0 z : St} {N : Nat} {x0 : Nat} {x3 : Int64} {x5 : Int32} {x6 : Option Nat} {s0 : Nat} {s1 : Int32} {s2 : Int32} (h : zEq zClP z0 z) : zPr zClP z0 (fX19_write_54 N x0 x3 x5 x6 s0 s1 s2 z) := by
  unfold fX19_write_54
  exact zp_c (pX19_fails  h) (fun r1 z2 h1 => zp_i (pX19_write_65  _ _ _ _ _ _ _ h1) (zp_s h1))
theorem pX19_write_49 {z0 z : St} {N : Nat} {x0 : Nat} {x3 : Int64} {x5 : Int32} {x6 : Option Nat} {s0 : Nat} {s1 : Int32} (h : zEq zClP z0 z) : zPr zClP z0 (fX19_write_49 N x0 x3 x5 x6 s0 s1 z) := by
  unfold fX19_write_49
  exact pX19_write_54  h
theorem pX19_write_36 {z0 z : St} {N : Nat} {x0 : Nat} {x3 : Int64} {x5 : Int32} {x6 : Option Nat} {s0 : Nat} {s1 : Int32} (h : zEq zClP z0 z) : zPr zClP z0 (fX19_write_36 N x0 x3 x5 x6 s0 s1 z) := by
  unfold fX19_write_36
  exact zp_o (pX19_write_49  h) (fun a2 => zp_c (pX14_canWrite  h) (fun r3 z4 h1 => zp_i (pX19_write_54  h1) (pX19_write_49  h1)))
theorem pX19_write_31 {z0 z : St} {N : Nat} {x0 : Nat} {x3 : Int64} {x5 : Int32} {x6 : Option Nat} {s0 : Nat} (h : zEq zClP z0 z) : zPr zClP z0 (fX19_write_31 N x0 x3 x5 x6 s0 z) := by
  unfold fX19_write_31
  exact pX19_write_36  h
theorem pX19_write {z0 z : St} {N : Nat} {x0 : Nat} {x1 : Int32} {x2 : Int32} {x3 : Int64} {x5 : Int32} (h : zEq zClP z0 z) : zPr zClP z0 (fX19_write N x0 x1 x2 x3 x5 z) := by
  unfold fX19_write
  exact zp_c (pX19_endAt  h) (fun r1 z2 h1 => zp_c (pX19_isDoor  h1) (fun r5 z6 h2 => zp_i (pX19_write_31  h2) (zp_i (pX19_write_31  h2) (zp_i (pX19_write_36  h2) (pX19_write_31  h2)))))
theorem pX19_fill_95 {z0 z : St} {N : Nat} {x0 : Nat} {x6 : Option Nat} {x7 : Int32} (h : zEq zClP z0 z) : zPr zClP z0 (fX19_fill_95 N x0 x6 x7 z) := by
  unfold fX19_fill_95
  exact zp_d (fun a1 => zp_c (pX14_persist  h) (fun _ z3 h1 => zp_c (pX19_stir  h1) (fun _ z7 h2 => zp_s h2)))
theorem pX19_fill_66b {z0 z : St} {N : Nat} {K66 : Nat → Int32 → Int32 → Int32 → Option Nat → Int32 → St → Option (Int32 × St)} {x0 : Nat} {x3 : Int32} {x4 : Int32} {x5 : Int32} {x6 : Option Nat} {x7 : Int32} (hK66 : ∀ a0 a1 a2 a3 a4 a5 a6, zEq zClP z0 a6 → zPr zClP z0 (K66 a0 a1 a2 a3 a4 a5 a6)) (h : zEq zClP z0 z) : zPr zClP z0 (fX19_fill_66b N K66 x0 x3 x4 x5 x6 x7 z) := by
  unfold fX19_fill_66b
  exact zp_i (pX19_fill_95  h) (zp_d (fun a2 => zp_c (pX19_writes  h) (fun r3 z4 h1 => zp_i (pX19_fill_95  h1) (zp_l (fun v8 => hK66 _ _ _ _ _ _ _ h1)))))
theorem pX19_fill_66 {z0 : St} {N : Nat} : ∀ (n : Nat) (y0 : Nat) (y1 : Int32) (y2 : Int32) (y3 : Int32) (y4 : Option Nat) (y5 : Int32) (z : St), zEq zClP z0 z → zPr zClP z0 (fX19_fill_66 N n y0 y1 y2 y3 y4 y5 z) := by
  intro n
  induction n with
  | zero => intro y0 y1 y2 y3 y4 y5 z h; exact zp_n
  | succ n ih => intro y0 y1 y2 y3 y4 y5 z h; exact pX19_fill_66b  (fun _ _ _ _ _ _ _ h => ih _ _ _ _ _ _ _ h) h
theorem pX19_fill_55 {z0 z : St} {N : Nat} {x0 : Nat} {x3 : Int32} {x4 : Int32} {x5 : Int32} {x6 : Option Nat} {s0 : Nat} {s1 : Int32} {s2 : Int32} (h : zEq zClP z0 z) : zPr zClP z0 (fX19_fill_55 N x0 x3 x4 x5 x6 s0 s1 s2 z) := by
  unfold fX19_fill_55
  exact zp_c (pX19_fails  h) (fun r1 z2 h1 => zp_i (pX19_fill_66  _ _ _ _ _ _ _ _ h1) (zp_s h1))
theorem pX19_fill_50 {z0 z : St} {N : Nat} {x0 : Nat} {x3 : Int32} {x4 : Int32} {x5 : Int32} {x6 : Option Nat} {s0 : Nat} {s1 : Int32} (h : zEq zClP z0 z) : zPr zClP z0 (fX19_fill_50 N x0 x3 x4 x5 x6 s0 s1 z) := by
  unfold fX19_fill_50
  exact pX19_fill_55  h
theorem pX19_fill_37 {z0 z : St} {N : Nat} {x0 : Nat} {x3 : Int32} {x4 : Int32} {x5 : Int32} {x6 : Option Nat} {s0 : Nat} {s1 : Int32} (h : zEq zClP z0 z) : zPr zClP z0 (fX19_fill_37 N x0 x3 x4 x5 x6 s0 s1 z) := by
  unfold fX19_fill_37
  exact zp_o (pX19_fill_50  h) (fun a2 => zp_c (pX14_canWrite  h) (fun r3 z4 h1 => zp_i (pX19_fill_55  h1) (pX19_fill_50  h1)))
theorem pX19_fill_32 {z0 z : St} {N : Nat} {x0 : Nat} {x3 : Int32} {x4 : Int32} {x5 : Int32} {x6 : Option Nat} {s0 : Nat} (h : zEq zClP z0 z) : zPr zClP z0 (fX19_fill_32 N x0 x3 x4 x5 x6 s0 z) := by
  unfold fX19_fill_32
  exact pX19_fill_37  h
theorem pX19_fill {z0 z : St} {N : Nat} {x0 : Nat} {x1 : Int32} {x2 : Int32} {x3 : Int32} {x4 : Int32} {x5 : Int32} (h : zEq zClP z0 z) : zPr zClP z0 (fX19_fill N x0 x1 x2 x3 x4 x5 z) := by
  unfold fX19_fill
  exact zp_c (pX19_endAt  h) (fun r1 z2 h1 => zp_c (pX19_isDoor  h1) (fun r5 z6 h2 => zp_i (pX19_fill_32  h2) (zp_i (pX19_fill_32  h2) (zp_i (pX19_fill_37  h2) (pX19_fill_32  h2)))))
theorem pX19_canRead_33 {z0 z : St} {N : Nat} (h : zEq zClP z0 z) : zPr zClP z0 (fX19_canRead_33 N z) := by
  unfold fX19_canRead_33
  exact zp_s h
theorem pX19_canRead {z0 z : St} {N : Nat} {x0 : Option Nat} (h : zEq zClP z0 z) : zPr zClP z0 (fX19_canRead N x0 z) := by
  unfold fX19_canRead
  exact zp_o (zp_s h) (fun a2 => zp_c (pX14_readable  h) (fun r3 z4 h1 => zp_i (pX19_canRead_33  h1) (zp_i (pX19_canRead_33  h1) (zp_c (pX14_isDead  h1) (fun r9 z10 h2 => zp_i (zp_s h2) (zp_i (zp_s h2) (pX19_canRead_33  h2)))))))
theorem pX19_read__34 {z0 z : St} {N : Nat} {x0 : Nat} {x3 : Option Nat} {s0 : Nat} {s1 : Int32} {s2 : Int32} (h : zEq zClP z0 z) : zPr zClP z0 (fX19_read__34 N x0 x3 s0 s1 s2 z) := by
  unfold fX19_read__34
  exact zp_c (pX19_fails  h) (fun r1 z2 h1 => zp_i (zp_d (fun a6 => zp_c (pX14_readable  h1) (fun r7 z8 h2 => zp_i (zp_i (zp_s h2) (zp_s h2)) (zp_c (pX19_read  h2) (fun r13 z14 h3 => zp_s h3))))) (zp_s h1))
theorem pX19_read__22 {z0 z : St} {N : Nat} {x0 : Nat} {x3 : Option Nat} {s0 : Nat} {s1 : Int32} (h : zEq zClP z0 z) : zPr zClP z0 (fX19_read__22 N x0 x3 s0 s1 z) := by
  unfold fX19_read__22
  exact zp_c (pX19_canRead  h) (fun r1 z2 h1 => zp_i (pX19_read__34  h1) (pX19_read__34  h1))
theorem pX19_read_ {z0 z : St} {N : Nat} {x0 : Nat} {x1 : Int32} {x2 : Int32} (h : zEq zClP z0 z) : zPr zClP z0 (fX19_read_ N x0 x1 x2 z) := by
  unfold fX19_read_
  exact zp_c (pX19_endAt  h) (fun r1 z2 h1 => zp_c (pX19_isDoor  h1) (fun r5 z6 h2 => zp_i (pX19_read__22  h2) (pX19_read__22  h2)))
theorem pX19_readAll_62b {z0 z : St} {N : Nat} {K62 : Nat → Int32 → Option Nat → Int32 → Int32 → St → Option (Int32 × St)} {x0 : Nat} {x3 : Int32} {x4 : Option Nat} {x5 : Int32} {x6 : Int32} (hK62 : ∀ a0 a1 a2 a3 a4 a5, zEq zClP z0 a5 → zPr zClP z0 (K62 a0 a1 a2 a3 a4 a5)) (h : zEq zClP z0 z) : zPr zClP z0 (fX19_readAll_62b N K62 x0 x3 x4 x5 x6 z) := by
  unfold fX19_readAll_62b
  exact zp_i (zp_s h) (zp_d (fun a2 => zp_c (pX14_readable  h) (fun r3 z4 h1 => zp_i (zp_s h1) (zp_c (pX19_read  h1) (fun r8 z9 h2 => zp_l (fun v12 => zp_l (fun v13 => hK62 _ _ _ _ _ _ h2)))))))
theorem pX19_readAll_62 {z0 : St} {N : Nat} : ∀ (n : Nat) (y0 : Nat) (y1 : Int32) (y2 : Option Nat) (y3 : Int32) (y4 : Int32) (z : St), zEq zClP z0 z → zPr zClP z0 (fX19_readAll_62 N n y0 y1 y2 y3 y4 z) := by
  intro n
  induction n with
  | zero => intro y0 y1 y2 y3 y4 z h; exact zp_n
  | succ n ih => intro y0 y1 y2 y3 y4 z h; exact pX19_readAll_62b  (fun _ _ _ _ _ _ h => ih _ _ _ _ _ _ h) h
theorem pX19_readAll_48 {z0 z : St} {N : Nat} {x0 : Nat} {x3 : Int32} {x4 : Option Nat} {s0 : Nat} {s1 : Int32} {s2 : Int32} (h : zEq zClP z0 z) : zPr zClP z0 (fX19_readAll_48 N x0 x3 x4 s0 s1 s2 z) := by
  unfold fX19_readAll_48
  exact zp_c (pX19_fails  h) (fun r1 z2 h1 => zp_i (pX19_readAll_62  _ _ _ _ _ _ _ h1) (zp_s h1))
theorem pX19_readAll_35 {z0 z : St} {N : Nat} {x0 : Nat} {x3 : Int32} {x4 : Option Nat} {s0 : Nat} {s1 : Int32} (h : zEq zClP z0 z) : zPr zClP z0 (fX19_readAll_35 N x0 x3 x4 s0 s1 z) := by
  unfold fX19_readAll_35
  exact zp_c (pX19_canRead  h) (fun r1 z2 h1 => zp_i (pX19_readAll_48  h1) (pX19_readAll_48  h1))
theorem pX19_readAll_30 {z0 z : St} {N : Nat} {x0 : Nat} {x3 : Int32} {x4 : Option Nat} {s0 : Nat} (h : zEq zClP z0 z) : zPr zClP z0 (fX19_readAll_30 N x0 x3 x4 s0 z) := by
  unfold fX19_readAll_30
  exact pX19_readAll_35  h
theorem pX19_readAll {z0 z : St} {N : Nat} {x0 : Nat} {x1 : Int32} {x2 : Int32} {x3 : Int32} (h : zEq zClP z0 z) : zPr zClP z0 (fX19_readAll N x0 x1 x2 x3 z) := by
  unfold fX19_readAll
  exact zp_c (pX19_endAt  h) (fun r1 z2 h1 => zp_c (pX19_isDoor  h1) (fun r5 z6 h2 => zp_i (pX19_readAll_30  h2) (zp_i (pX19_readAll_30  h2) (zp_i (pX19_readAll_35  h2) (pX19_readAll_30  h2)))))
theorem pX19_close_201 {z0 z : St} {N : Nat} {K126 : Nat → Int32 → Int32 → Int32 → St → Option (Int32 × St)} {x0 : Nat} {x1 : Int32} {x2 : Int32} {x7 : Int32} (hK126 : ∀ a0 a1 a2 a3 a4, zEq zClP z0 a4 → zPr zClP z0 (K126 a0 a1 a2 a3 a4)) (h : zEq zClP z0 z) : zPr zClP z0 (fX19_close_201 N K126 x0 x1 x2 x7 z) := by
  unfold fX19_close_201
  exact zp_l (fun v1 => hK126 _ _ _ _ _ h)
theorem pX19_close_195 {z0 z : St} {N : Nat} {K126 : Nat → Int32 → Int32 → Int32 → St → Option (Int32 × St)} {x0 : Nat} {x1 : Int32} {x2 : Int32} {x7 : Int32} {x8 : Nat} (hK126 : ∀ a0 a1 a2 a3 a4, zEq zClP z0 a4 → zPr zClP z0 (K126 a0 a1 a2 a3 a4)) (h : zEq zClP z0 z) : zPr zClP z0 (fX19_close_195 N K126 x0 x1 x2 x7 x8 z) := by
  unfold fX19_close_195
  exact zp_lI h rfl (fun z1 h1 => pX19_close_201 hK126 h1)
theorem pX19_close_126b {z0 z : St} {N : Nat} {K126 : Nat → Int32 → Int32 → Int32 → St → Option (Int32 × St)} {x0 : Nat} {x1 : Int32} {x2 : Int32} {x7 : Int32} (hK126 : ∀ a0 a1 a2 a3 a4, zEq zClP z0 a4 → zPr zClP z0 (K126 a0 a1 a2 a3 a4)) (h : zEq zClP z0 z) : zPr zClP z0 (fX19_close_126b N K126 x0 x1 x2 x7 z) := by
  unfold fX19_close_126b
  exact zp_i (zp_s h) (zp_k (zp_l (fun y3 => zp_d (fun a4 => zp_k (zp_l (fun y6 => zp_d (fun a7 => zp_i (pX19_close_201 hK126 h) (zp_i (pX19_close_201 hK126 h) (zp_i (pX19_close_195 hK126 h) (zp_l (fun y11 => zp_d (fun a12 => zp_c (pX14_isDead  h) (fun r13 z14 h1 => zp_i (pX19_close_195 hK126 h1) (zp_l (fun y18 => zp_d (fun a19 => zp_c (pX14_abort  h1) (fun _ z21 h2 => pX19_close_195 hK126 h2)))))))))))))))))
theorem pX19_close_126 {z0 : St} {N : Nat} : ∀ (n : Nat) (y0 : Nat) (y1 : Int32) (y2 : Int32) (y3 : Int32) (z : St), zEq zClP z0 z → zPr zClP z0 (fX19_close_126 N n y0 y1 y2 y3 z) := by
  intro n
  induction n with
  | zero => intro y0 y1 y2 y3 z h; exact zp_n
  | succ n ih => intro y0 y1 y2 y3 z h; exact pX19_close_126b  (fun _ _ _ _ _ h => ih _ _ _ _ _ h) h
theorem pX19_close_88 {z0 z : St} {N : Nat} {x0 : Nat} {x1 : Int32} {x2 : Int32} {x3 : Option Nat} {x5 : Int32} {s0 : Nat} {s1 : Int32} {s2 : Int32} (h : zEq zClP z0 z) : zPr zClP z0 (fX19_close_88 N x0 x1 x2 x3 x5 s0 s1 s2 z) := by
  unfold fX19_close_88
  exact zp_c (pX19_fails  h) (fun r1 z2 h1 => zp_i (zp_k (zp_l (fun y7 => zp_d (fun a8 => zp_k (zp_l (fun y10 => zp_c (pX19_stir  h1) (fun _ z12 h2 => zp_i (zp_d (fun a16 => zp_c (pX14_isDead  h2) (fun r17 z18 h3 => zp_i (zp_c (pX14_close  h3) (fun _ z23 h4 => zp_c (pX14_persist  h4) (fun _ z27 h5 => zp_s h5))) (zp_d (fun a30 => zp_c (pX19_takeEnd  h3) (fun _ z32 h6 => zp_s h6)))))) (zp_d (fun a35 => zp_lI h2 rfl (fun z36 h7 => pX19_close_126  _ _ _ _ _ _ h7)))))))))) (zp_s h1))
theorem pX19_close_83 {z0 z : St} {N : Nat} {x0 : Nat} {x1 : Int32} {x2 : Int32} {x3 : Option Nat} {x5 : Int32} {s0 : Nat} {s1 : Int32} (h : zEq zClP z0 z) : zPr zClP z0 (fX19_close_83 N x0 x1 x2 x3 x5 s0 s1 z) := by
  unfold fX19_close_83
  exact pX19_close_88  h
theorem pX19_close_87 {z0 z : St} {N : Nat} {x0 : Nat} {x1 : Int32} {x2 : Int32} {x3 : Option Nat} {x5 : Int32} {s0 : Nat} {s1 : Int32} (h : zEq zClP z0 z) : zPr zClP z0 (fX19_close_87 N x0 x1 x2 x3 x5 s0 s1 z) := by
  unfold fX19_close_87
  exact pX19_close_88  h
theorem pX19_close_55 {z0 z : St} {N : Nat} {x0 : Nat} {x1 : Int32} {x2 : Int32} {x3 : Option Nat} {x4 : Int32} {x5 : Int32} {s0 : Nat} {s1 : Int32} (h : zEq zClP z0 z) : zPr zClP z0 (fX19_close_55 N x0 x1 x2 x3 x4 x5 s0 s1 z) := by
  unfold fX19_close_55
  exact zp_i (pX19_close_87  h) (zp_i (pX19_close_87  h) (zp_o (pX19_close_83  h) (fun a4 => zp_i (pX19_close_87  h) (zp_c (pX14_isDead  h) (fun r6 z7 h1 => zp_i (pX19_close_87  h1) (pX19_close_83  h1))))))
theorem pX19_close_42 {z0 z : St} {N : Nat} {x0 : Nat} {x1 : Int32} {x2 : Int32} {x3 : Option Nat} {x4 : Int32} {s0 : Int32} (h : zEq zClP z0 z) : zPr zClP z0 (fX19_close_42 N x0 x1 x2 x3 x4 s0 z) := by
  unfold fX19_close_42
  exact zp_i (pX19_close_55  h) (pX19_close_55  h)
theorem pX19_close_41 {z0 z : St} {N : Nat} {x0 : Nat} {x1 : Int32} {x2 : Int32} {x3 : Option Nat} {x4 : Int32} (h : zEq zClP z0 z) : zPr zClP z0 (fX19_close_41 N x0 x1 x2 x3 x4 z) := by
  unfold fX19_close_41
  exact pX19_close_42  h
theorem pX19_close {z0 z : St} {N : Nat} {x0 : Nat} {x1 : Int32} {x2 : Int32} (h : zEq zClP z0 z) : zPr zClP z0 (fX19_close N x0 x1 x2 z) := by
  unfold fX19_close
  exact zp_c (pX19_endAt  h) (fun r1 z2 h1 => zp_c (pX19_isDoor  h1) (fun r5 z6 h2 => zp_i (pX19_close_41  h2) (zp_k (zp_l (fun y11 => zp_d (fun a12 => zp_k (zp_l (fun y14 => zp_d (fun a15 => zp_i (pX19_close_41  h2) (pX19_close_42  h2))))))))))
theorem pX19_abort_38 {z0 z : St} {N : Nat} {x0 : Nat} {x3 : Option Nat} {s0 : Nat} {s1 : Int32} {s2 : Int32} (h : zEq zClP z0 z) : zPr zClP z0 (fX19_abort_38 N x0 x3 s0 s1 s2 z) := by
  unfold fX19_abort_38
  exact zp_c (pX19_fails  h) (fun r1 z2 h1 => zp_i (zp_s h1) (zp_d (fun a6 => zp_c (pX14_abort  h1) (fun _ z8 h2 => zp_c (pX19_stir  h2) (fun _ z12 h3 => zp_s h3)))))
theorem pX19_abort_33 {z0 z : St} {N : Nat} {x0 : Nat} {x3 : Option Nat} {s0 : Nat} {s1 : Int32} (h : zEq zClP z0 z) : zPr zClP z0 (fX19_abort_33 N x0 x3 s0 s1 z) := by
  unfold fX19_abort_33
  exact pX19_abort_38  h
theorem pX19_abort_22 {z0 z : St} {N : Nat} {x0 : Nat} {x3 : Option Nat} {s0 : Nat} {s1 : Int32} (h : zEq zClP z0 z) : zPr zClP z0 (fX19_abort_22 N x0 x3 s0 s1 z) := by
  unfold fX19_abort_22
  exact zp_o (pX19_abort_33  h) (fun a2 => zp_c (pX14_isDead  h) (fun r3 z4 h1 => zp_i (pX19_abort_38  h1) (pX19_abort_33  h1)))
theorem pX19_abort {z0 z : St} {N : Nat} {x0 : Nat} {x1 : Int32} {x2 : Int32} (h : zEq zClP z0 z) : zPr zClP z0 (fX19_abort N x0 x1 x2 z) := by
  unfold fX19_abort
  exact zp_c (pX19_endAt  h) (fun r1 z2 h1 => zp_c (pX19_isDoor  h1) (fun r5 z6 h2 => zp_i (pX19_abort_22  h2) (pX19_abort_22  h2)))
theorem pX19_door_221 {z0 z : St} {N : Nat} (h : zEq zClP z0 z) : zPr zClP z0 (fX19_door_221 N z) := by
  unfold fX19_door_221
  exact zp_s h
theorem pX19_door_64 {z0 z : St} {N : Nat} {x3 : Int32} {x4 : Nat} {s0 : Option Nat} (h : zEq zClP z0 z) : zPr zClP z0 (fX19_door_64 N x3 x4 s0 z) := by
  unfold fX19_door_64
  exact zp_i (zp_i (zp_o (zp_s h) (fun a4 => zp_s h)) (zp_s h)) (zp_i (zp_i (zp_o (zp_s h) (fun a8 => zp_s h)) (zp_s h)) (zp_i (zp_o (zp_s h) (fun a11 => zp_s h)) (zp_i (zp_o (zp_s h) (fun a14 => zp_s h)) (zp_i (zp_o (zp_s h) (fun a17 => zp_c (pX14_readable  h) (fun r18 z19 h1 => zp_s h1))) (zp_i (zp_o (pX19_door_221  h) (fun a24 => zp_c (pX14_canWrite  h) (fun r25 z26 h2 => zp_i (zp_c (pX14_unthanked  h2) (fun r30 z31 h3 => zp_s h3)) (pX19_door_221  h2)))) (zp_o (zp_s h) (fun a35 => zp_c (pX14_unthanked  h) (fun r36 z37 h4 => zp_s h4))))))))
theorem pX19_door_25 {z0 z : St} {N : Nat} {x0 : Nat} {x1 : Int32} {x2 : Int32} {x3 : Int32} {s0 : Nat} {s1 : Int32} (h : zEq zClP z0 z) : zPr zClP z0 (fX19_door_25 N x0 x1 x2 x3 s0 s1 z) := by
  unfold fX19_door_25
  exact zp_c (pX19_fails  h) (fun r1 z2 h1 => zp_i (zp_k (zp_l (fun y7 => zp_d (fun a8 => zp_k (zp_l (fun y10 => zp_d (fun a11 => zp_i (pX19_door_64  h1) (zp_l (fun y13 => pX19_door_64  h1))))))))) (zp_s h1))
theorem pX19_door_20 {z0 z : St} {N : Nat} {x0 : Nat} {x1 : Int32} {x2 : Int32} {x3 : Int32} {s0 : Nat} (h : zEq zClP z0 z) : zPr zClP z0 (fX19_door_20 N x0 x1 x2 x3 s0 z) := by
  unfold fX19_door_20
  exact pX19_door_25  h
theorem pX19_door {z0 z : St} {N : Nat} {x0 : Nat} {x1 : Int32} {x2 : Int32} {x3 : Int32} (h : zEq zClP z0 z) : zPr zClP z0 (fX19_door N x0 x1 x2 x3 z) := by
  unfold fX19_door
  exact zp_c (pX19_isDoor  h) (fun r1 z2 h1 => zp_i (pX19_door_20  h1) (zp_i (pX19_door_20  h1) (zp_i (pX19_door_25  h1) (pX19_door_20  h1))))
theorem pX19_way_31 {z0 z : St} {N : Nat} {x0 : Nat} {x1 : Int32} {x2 : Int32} {x3 : Int32} {s0 : Nat} {s1 : Int32} (h : zEq zClP z0 z) : zPr zClP z0 (fX19_way_31 N x0 x1 x2 x3 s0 s1 z) := by
  unfold fX19_way_31
  exact zp_c (pX19_fails  h) (fun r1 z2 h1 => zp_i (zp_k (zp_l (fun y7 => zp_i (zp_i (zp_d (fun a10 => zp_k (zp_s h1))) (zp_d (fun a12 => zp_k (zp_s h1)))) (zp_d (fun a14 => zp_k (zp_s h1)))))) (zp_s h1))
theorem pX19_way_26 {z0 z : St} {N : Nat} {x0 : Nat} {x1 : Int32} {x2 : Int32} {x3 : Int32} {s0 : Nat} (h : zEq zClP z0 z) : zPr zClP z0 (fX19_way_26 N x0 x1 x2 x3 s0 z) := by
  unfold fX19_way_26
  exact pX19_way_31  h
theorem pX19_way {z0 z : St} {N : Nat} {x0 : Nat} {x1 : Int32} {x2 : Int32} {x3 : Int32} (h : zEq zClP z0 z) : zPr zClP z0 (fX19_way N x0 x1 x2 x3 z) := by
  unfold fX19_way
  exact zp_c (pX19_isRouter  h) (fun r1 z2 h1 => zp_i (pX19_way_26  h1) (zp_c (pX19_isNet  h1) (fun r6 z7 h2 => zp_i (pX19_way_26  h2) (zp_i (pX19_way_26  h2) (zp_i (pX19_way_31  h2) (pX19_way_26  h2))))))
theorem pX19_friends_30 {z0 z : St} {N : Nat} {x0 : Nat} {x1 : Int32} {x2 : Int32} {x3 : Int32} {s0 : Nat} {s1 : Int32} (h : zEq zClP z0 z) : zPr zClP z0 (fX19_friends_30 N x0 x1 x2 x3 s0 s1 z) := by
  unfold fX19_friends_30
  exact zp_c (pX19_fails  h) (fun r1 z2 h1 => zp_i (zp_c (pX19_portOn  h1) (fun r6 z7 h2 => zp_o (zp_s h2) (fun a11 => zp_i (zp_s h2) (zp_l (fun y13 => zp_d (fun a14 => zp_c (pX19_friend  h2) (fun r15 z16 h3 => zp_o (zp_s h3) (fun a20 => zp_s h3)))))))) (zp_s h1))
theorem pX19_friends_25 {z0 z : St} {N : Nat} {x0 : Nat} {x1 : Int32} {x2 : Int32} {x3 : Int32} {s0 : Nat} (h : zEq zClP z0 z) : zPr zClP z0 (fX19_friends_25 N x0 x1 x2 x3 s0 z) := by
  unfold fX19_friends_25
  exact pX19_friends_30  h
theorem pX19_friends {z0 z : St} {N : Nat} {x0 : Nat} {x1 : Int32} {x2 : Int32} {x3 : Int32} (h : zEq zClP z0 z) : zPr zClP z0 (fX19_friends N x0 x1 x2 x3 z) := by
  unfold fX19_friends
  exact zp_c (pX19_isRouter  h) (fun r1 z2 h1 => zp_i (pX19_friends_25  h1) (zp_c (pX19_isRouter  h1) (fun r6 z7 h2 => zp_i (pX19_friends_25  h2) (zp_c (pX19_isNet  h2) (fun r11 z12 h3 => zp_i (pX19_friends_30  h3) (pX19_friends_25  h3))))))
theorem pX19_advert_22 {z0 z : St} {N : Nat} {x0 : Nat} {x1 : Int32} {x2 : Int32} {s0 : Nat} {s1 : Int32} (h : zEq zClP z0 z) : zPr zClP z0 (fX19_advert_22 N x0 x1 x2 s0 s1 z) := by
  unfold fX19_advert_22
  exact zp_c (pX19_fails  h) (fun r1 z2 h1 => zp_i (zp_k (zp_l (fun y7 => zp_d (fun a8 => zp_k (zp_l (fun v10 => zp_i (zp_c (pX19_ad  h1) (fun r12 z13 h2 => zp_s h2)) (zp_s h1))))))) (zp_s h1))
theorem pX19_advert_17 {z0 z : St} {N : Nat} {x0 : Nat} {x1 : Int32} {x2 : Int32} {s0 : Nat} (h : zEq zClP z0 z) : zPr zClP z0 (fX19_advert_17 N x0 x1 x2 s0 z) := by
  unfold fX19_advert_17
  exact pX19_advert_22  h
theorem pX19_advert {z0 z : St} {N : Nat} {x0 : Nat} {x1 : Int32} {x2 : Int32} (h : zEq zClP z0 z) : zPr zClP z0 (fX19_advert N x0 x1 x2 z) := by
  unfold fX19_advert
  exact zp_c (pX19_isRouter  h) (fun r1 z2 h1 => zp_i (pX19_advert_17  h1) (zp_c (pX19_isRouter  h1) (fun r6 z7 h2 => zp_i (pX19_advert_22  h2) (pX19_advert_17  h2))))
theorem pX19_count_52 {z0 z : St} {N : Nat} {x0 : Nat} {x1 : Int32} {x2 : Int32} {s0 : Nat} {s1 : Int32} (h : zEq zClP z0 z) : zPr zClP z0 (fX19_count_52 N x0 x1 x2 s0 s1 z) := by
  unfold fX19_count_52
  exact zp_c (pX19_fails  h) (fun r1 z2 h1 => zp_i (zp_i (zp_k (zp_l (fun y8 => zp_i (zp_i (zp_i (zp_i (zp_i (zp_d (fun a14 => zp_s h1)) (zp_d (fun a15 => zp_s h1))) (zp_d (fun a16 => zp_s h1))) (zp_d (fun a17 => zp_s h1))) (zp_d (fun a18 => zp_s h1))) (zp_d (fun a19 => zp_s h1))))) (zp_i (zp_k (zp_l (fun y22 => zp_d (fun a23 => zp_s h1)))) (zp_k (zp_l (fun y25 => zp_d (fun a26 => zp_s h1)))))) (zp_s h1))
theorem pX19_count_41 {z0 z : St} {N : Nat} {x0 : Nat} {x1 : Int32} {x2 : Int32} {s0 : Int32} (h : zEq zClP z0 z) : zPr zClP z0 (fX19_count_41 N x0 x1 x2 s0 z) := by
  unfold fX19_count_41
  exact zp_i (pX19_count_52  h) (pX19_count_52  h)
theorem pX19_count_36 {z0 z : St} {N : Nat} {x0 : Nat} {x1 : Int32} {x2 : Int32} (h : zEq zClP z0 z) : zPr zClP z0 (fX19_count_36 N x0 x1 x2 z) := by
  unfold fX19_count_36
  exact pX19_count_41  h
theorem pX19_count_40 {z0 z : St} {N : Nat} {x0 : Nat} {x1 : Int32} {x2 : Int32} (h : zEq zClP z0 z) : zPr zClP z0 (fX19_count_40 N x0 x1 x2 z) := by
  unfold fX19_count_40
  exact pX19_count_41  h
theorem pX19_count_17 {z0 z : St} {N : Nat} {x0 : Nat} {x1 : Int32} {x2 : Int32} (h : zEq zClP z0 z) : zPr zClP z0 (fX19_count_17 N x0 x1 x2 z) := by
  unfold fX19_count_17
  exact zp_i (pX19_count_40  h) (zp_i (pX19_count_40  h) (zp_c (pX19_isBox  h) (fun r3 z4 h1 => zp_i (pX19_count_40  h1) (pX19_count_36  h1))))
theorem pX19_count {z0 z : St} {N : Nat} {x0 : Nat} {x1 : Int32} {x2 : Int32} (h : zEq zClP z0 z) : zPr zClP z0 (fX19_count N x0 x1 x2 z) := by
  unfold fX19_count
  exact zp_i (pX19_count_17  h) (zp_i (pX19_count_17  h) (zp_c (pX19_isNet  h) (fun r3 z4 h1 => zp_i (pX19_count_36  h1) (pX19_count_17  h1))))
theorem pX19_underWay {z0 z : St} {N : Nat} {x0 : Nat} (h : zEq zClP z0 z) : zPr zClP z0 (fX19_underWay N x0 z) := by
  unfold fX19_underWay
  exact zp_lI h rfl (fun z1 h1 => zp_s h1)
theorem pX19_time {z0 z : St} {N : Nat} {x0 : Nat} (h : zEq zClP z0 z) : zPr zClP z0 (fX19_time N x0 z) := by
  unfold fX19_time
  exact zp_lI h rfl (fun z1 h1 => zp_s h1)
theorem pX19_goOn_97 {z0 z : St} {N : Nat} {K5 : Nat → Int32 → Nat → Int32 → Int32 → St → Option (Int32 × St)} {x0 : Nat} {x1 : Int32} {x2 : Nat} {x3 : Int32} {x4 : Int32} (hK5 : ∀ a0 a1 a2 a3 a4 a5, zEq zClP z0 a5 → zPr zClP z0 (K5 a0 a1 a2 a3 a4 a5)) (h : zEq zClP z0 z) : zPr zClP z0 (fX19_goOn_97 N K5 x0 x1 x2 x3 x4 z) := by
  unfold fX19_goOn_97
  exact zp_l (fun v1 => hK5 _ _ _ _ _ _ h)
theorem pX19_goOn_5b {z0 z : St} {N : Nat} {K5 : Nat → Int32 → Nat → Int32 → Int32 → St → Option (Int32 × St)} {x0 : Nat} {x1 : Int32} {x2 : Nat} {x3 : Int32} {x4 : Int32} (hK5 : ∀ a0 a1 a2 a3 a4 a5, zEq zClP z0 a5 → zPr zClP z0 (K5 a0 a1 a2 a3 a4 a5)) (h : zEq zClP z0 z) : zPr zClP z0 (fX19_goOn_5b N K5 x0 x1 x2 x3 x4 z) := by
  unfold fX19_goOn_5b
  exact zp_l (fun y1 => zp_d (fun a2 => zp_i (zp_q (zp_s h)) (zp_l (fun y5 => zp_d (fun a6 => zp_i (zp_q (zp_s h)) (zp_l (fun y9 => zp_d (fun a10 => zp_k (zp_l (fun y12 => zp_d (fun a13 => zp_l (fun y14 => zp_d (fun a15 => zp_i (pX19_goOn_97 hK5 h) (zp_k (zp_k (zp_i (pX19_goOn_97 hK5 h) (zp_k (zp_k (zp_lA h rfl (fun z22 h1 => pX19_goOn_97 hK5 h1))))))))))))))))))))
theorem pX19_goOn_5 {z0 : St} {N : Nat} : ∀ (n : Nat) (y0 : Nat) (y1 : Int32) (y2 : Nat) (y3 : Int32) (y4 : Int32) (z : St), zEq zClP z0 z → zPr zClP z0 (fX19_goOn_5 N n y0 y1 y2 y3 y4 z) := by
  intro n
  induction n with
  | zero => intro y0 y1 y2 y3 y4 z h; exact zp_n
  | succ n ih => intro y0 y1 y2 y3 y4 z h; exact pX19_goOn_5b  (fun _ _ _ _ _ _ h => ih _ _ _ _ _ _ h) h
theorem pX19_goOn {z0 z : St} {N : Nat} {x0 : Nat} {x1 : Int32} {x2 : Nat} (h : zEq zClP z0 z) : zPr zClP z0 (fX19_goOn N x0 x1 x2 z) := by
  unfold fX19_goOn
  exact pX19_goOn_5  _ _ _ _ _ _ _ h
theorem pX19_fromAbove_25 {z0 z : St} {N : Nat} {K2 : Nat → Int32 → Int32 → St → Option (Int32 × St)} {x0 : Nat} {x1 : Int32} {x2 : Int32} {s0 : Nat} {s1 : Int32} {s2 : Int32} (hK2 : ∀ a0 a1 a2 a3, zEq zClP z0 a3 → zPr zClP z0 (K2 a0 a1 a2 a3)) (h : zEq zClP z0 z) : zPr zClP z0 (fX19_fromAbove_25 N K2 x0 x1 x2 s0 s1 s2 z) := by
  unfold fX19_fromAbove_25
  exact zp_k (zp_lA h rfl (fun z2 h1 => zp_l (fun v3 => hK2 _ _ _ _ h1)))
theorem pX19_fromAbove_116 {z0 z : St} {N : Nat} {K34 : Nat → Int32 → St → Option (Int32 × St)} {K42 : Nat → Int32 → Int32 → St → Option (Int32 × St)} {K53 : Nat → Int32 → Int32 → Int32 → St → Option (Int32 × St)} {x0 : Nat} {x3 : Int32} {x4 : Int32} {s0 : Int32} (hK34 : ∀ a0 a1 a2, zEq zClP z0 a2 → zPr zClP z0 (K34 a0 a1 a2)) (hK42 : ∀ a0 a1 a2 a3, zEq zClP z0 a3 → zPr zClP z0 (K42 a0 a1 a2 a3)) (hK53 : ∀ a0 a1 a2 a3 a4, zEq zClP z0 a4 → zPr zClP z0 (K53 a0 a1 a2 a3 a4)) (h : zEq zClP z0 z) : zPr zClP z0 (fX19_fromAbove_116 N K34 K42 K53 x0 x3 x4 s0 z) := by
  unfold fX19_fromAbove_116
  exact zp_l (fun v1 => hK53 _ _ _ _ _ h)
theorem pX19_fromAbove_111 {z0 z : St} {N : Nat} {K34 : Nat → Int32 → St → Option (Int32 × St)} {K42 : Nat → Int32 → Int32 → St → Option (Int32 × St)} {K53 : Nat → Int32 → Int32 → Int32 → St → Option (Int32 × St)} {x0 : Nat} {x3 : Int32} {x4 : Int32} (hK34 : ∀ a0 a1 a2, zEq zClP z0 a2 → zPr zClP z0 (K34 a0 a1 a2)) (hK42 : ∀ a0 a1 a2 a3, zEq zClP z0 a3 → zPr zClP z0 (K42 a0 a1 a2 a3)) (hK53 : ∀ a0 a1 a2 a3 a4, zEq zClP z0 a4 → zPr zClP z0 (K53 a0 a1 a2 a3 a4)) (h : zEq zClP z0 z) : zPr zClP z0 (fX19_fromAbove_111 N K34 K42 K53 x0 x3 x4 z) := by
  unfold fX19_fromAbove_111
  exact pX19_fromAbove_116 hK34 hK42 hK53 h
theorem pX19_fromAbove_123 {z0 z : St} {N : Nat} {K34 : Nat → Int32 → St → Option (Int32 × St)} {K42 : Nat → Int32 → Int32 → St → Option (Int32 × St)} {x0 : Nat} {x2 : Int32} {x3 : Int32} (hK34 : ∀ a0 a1 a2, zEq zClP z0 a2 → zPr zClP z0 (K34 a0 a1 a2)) (hK42 : ∀ a0 a1 a2 a3, zEq zClP z0 a3 → zPr zClP z0 (K42 a0 a1 a2 a3)) (h : zEq zClP z0 z) : zPr zClP z0 (fX19_fromAbove_123 N K34 K42 x0 x2 x3 z) := by
  unfold fX19_fromAbove_123
  exact zp_l (fun v1 => hK42 _ _ _ _ h)
theorem pX19_fromAbove_53b {z0 z : St} {N : Nat} {K34 : Nat → Int32 → St → Option (Int32 × St)} {K42 : Nat → Int32 → Int32 → St → Option (Int32 × St)} {K53 : Nat → Int32 → Int32 → Int32 → St → Option (Int32 × St)} {x0 : Nat} {x2 : Int32} {x3 : Int32} {x4 : Int32} (hK34 : ∀ a0 a1 a2, zEq zClP z0 a2 → zPr zClP z0 (K34 a0 a1 a2)) (hK42 : ∀ a0 a1 a2 a3, zEq zClP z0 a3 → zPr zClP z0 (K42 a0 a1 a2 a3)) (hK53 : ∀ a0 a1 a2 a3 a4, zEq zClP z0 a4 → zPr zClP z0 (K53 a0 a1 a2 a3 a4)) (h : zEq zClP z0 z) : zPr zClP z0 (fX19_fromAbove_53b N K34 K42 K53 x0 x2 x3 x4 z) := by
  unfold fX19_fromAbove_53b
  exact zp_c (pX19_isRouter  h) (fun r1 z2 h1 => zp_i (pX19_fromAbove_123 hK34 hK42 h1) (zp_k (zp_i (pX19_fromAbove_123 hK34 hK42 h1) (zp_k (zp_l (fun y9 => zp_d (fun a10 => zp_i (pX19_fromAbove_123 hK34 hK42 h1) (zp_k (zp_l (fun y13 => zp_d (fun a14 => zp_k (zp_l (fun y16 => zp_d (fun a17 => zp_c (pX19_goOn  h1) (fun r18 z19 h2 => zp_i (pX19_fromAbove_111 hK34 hK42 hK53 h2) (zp_i (pX19_fromAbove_116 hK34 hK42 hK53 h2) (pX19_fromAbove_111 hK34 hK42 hK53 h2)))))))))))))))))
theorem pX19_fromAbove_53 {z0 : St} {N : Nat} {K34 : Nat → Int32 → St → Option (Int32 × St)} {K42 : Nat → Int32 → Int32 → St → Option (Int32 × St)} (hK34 : ∀ a0 a1 a2, zEq zClP z0 a2 → zPr zClP z0 (K34 a0 a1 a2)) (hK42 : ∀ a0 a1 a2 a3, zEq zClP z0 a3 → zPr zClP z0 (K42 a0 a1 a2 a3)) : ∀ (n : Nat) (y0 : Nat) (y1 : Int32) (y2 : Int32) (y3 : Int32) (z : St), zEq zClP z0 z → zPr zClP z0 (fX19_fromAbove_53 N K34 K42 n y0 y1 y2 y3 z) := by
  intro n
  induction n with
  | zero => intro y0 y1 y2 y3 z h; exact zp_n
  | succ n ih => intro y0 y1 y2 y3 z h; exact pX19_fromAbove_53b hK34 hK42 (fun _ _ _ _ _ h => ih _ _ _ _ _ h) h
theorem pX19_fromAbove_42b {z0 z : St} {N : Nat} {K34 : Nat → Int32 → St → Option (Int32 × St)} {K42 : Nat → Int32 → Int32 → St → Option (Int32 × St)} {x0 : Nat} {x2 : Int32} {x3 : Int32} (hK34 : ∀ a0 a1 a2, zEq zClP z0 a2 → zPr zClP z0 (K34 a0 a1 a2)) (hK42 : ∀ a0 a1 a2 a3, zEq zClP z0 a3 → zPr zClP z0 (K42 a0 a1 a2 a3)) (h : zEq zClP z0 z) : zPr zClP z0 (fX19_fromAbove_42b N K34 K42 x0 x2 x3 z) := by
  unfold fX19_fromAbove_42b
  exact zp_i (hK34 _ _ _ h) (pX19_fromAbove_53 hK34 hK42 _ _ _ _ _ _ h)
theorem pX19_fromAbove_42 {z0 : St} {N : Nat} {K34 : Nat → Int32 → St → Option (Int32 × St)} (hK34 : ∀ a0 a1 a2, zEq zClP z0 a2 → zPr zClP z0 (K34 a0 a1 a2)) : ∀ (n : Nat) (y0 : Nat) (y1 : Int32) (y2 : Int32) (z : St), zEq zClP z0 z → zPr zClP z0 (fX19_fromAbove_42 N K34 n y0 y1 y2 z) := by
  intro n
  induction n with
  | zero => intro y0 y1 y2 z h; exact zp_n
  | succ n ih => intro y0 y1 y2 z h; exact pX19_fromAbove_42b hK34 (fun _ _ _ _ h => ih _ _ _ _ h) h
theorem pX19_fromAbove_34b {z0 z : St} {N : Nat} {K34 : Nat → Int32 → St → Option (Int32 × St)} {x0 : Nat} {x2 : Int32} (hK34 : ∀ a0 a1 a2, zEq zClP z0 a2 → zPr zClP z0 (K34 a0 a1 a2)) (h : zEq zClP z0 z) : zPr zClP z0 (fX19_fromAbove_34b N K34 x0 x2 z) := by
  unfold fX19_fromAbove_34b
  exact zp_i (zp_s h) (pX19_fromAbove_42 hK34 _ _ _ _ _ h)
theorem pX19_fromAbove_34 {z0 : St} {N : Nat} : ∀ (n : Nat) (y0 : Nat) (y1 : Int32) (z : St), zEq zClP z0 z → zPr zClP z0 (fX19_fromAbove_34 N n y0 y1 z) := by
  intro n
  induction n with
  | zero => intro y0 y1 z h; exact zp_n
  | succ n ih => intro y0 y1 z h; exact pX19_fromAbove_34b  (fun _ _ _ h => ih _ _ _ h) h
theorem pX19_fromAbove_2b {z0 z : St} {N : Nat} {K2 : Nat → Int32 → Int32 → St → Option (Int32 × St)} {x0 : Nat} {x1 : Int32} {x2 : Int32} (hK2 : ∀ a0 a1 a2 a3, zEq zClP z0 a3 → zPr zClP z0 (K2 a0 a1 a2 a3)) (h : zEq zClP z0 z) : zPr zClP z0 (fX19_fromAbove_2b N K2 x0 x1 x2 z) := by
  unfold fX19_fromAbove_2b
  exact zp_i (pX19_fromAbove_34  _ _ _ _ h) (zp_i (pX19_fromAbove_25 hK2 h) (pX19_fromAbove_25 hK2 h))
theorem pX19_fromAbove_2 {z0 : St} {N : Nat} : ∀ (n : Nat) (y0 : Nat) (y1 : Int32) (y2 : Int32) (z : St), zEq zClP z0 z → zPr zClP z0 (fX19_fromAbove_2 N n y0 y1 y2 z) := by
  intro n
  induction n with
  | zero => intro y0 y1 y2 z h; exact zp_n
  | succ n ih => intro y0 y1 y2 z h; exact pX19_fromAbove_2b  (fun _ _ _ _ h => ih _ _ _ _ h) h
theorem pX19_fromAbove {z0 z : St} {N : Nat} {x0 : Nat} {x1 : Int32} (h : zEq zClP z0 z) : zPr zClP z0 (fX19_fromAbove N x0 x1 z) := by
  unfold fX19_fromAbove
  exact pX19_fromAbove_2  _ _ _ _ _ h
theorem pX19_costAbove_120 {z0 z : St} {N : Nat} {K38 : Nat → Int32 → Int32 → Int32 → St → Option (Int32 × St)} {x0 : Nat} {x2 : Int32} {x4 : Int32} {x5 : Int32} (hK38 : ∀ a0 a1 a2 a3 a4, zEq zClP z0 a4 → zPr zClP z0 (K38 a0 a1 a2 a3 a4)) (h : zEq zClP z0 z) : zPr zClP z0 (fX19_costAbove_120 N K38 x0 x2 x4 x5 z) := by
  unfold fX19_costAbove_120
  exact zp_l (fun v1 => hK38 _ _ _ _ _ h)
theorem pX19_costAbove_67 {z0 z : St} {N : Nat} {K38 : Nat → Int32 → Int32 → Int32 → St → Option (Int32 × St)} {x0 : Nat} {x2 : Int32} {x4 : Int32} {x5 : Int32} {s0 : Option Nat} (hK38 : ∀ a0 a1 a2 a3 a4, zEq zClP z0 a4 → zPr zClP z0 (K38 a0 a1 a2 a3 a4)) (h : zEq zClP z0 z) : zPr zClP z0 (fX19_costAbove_67 N K38 x0 x2 x4 x5 s0 z) := by
  unfold fX19_costAbove_67
  exact zp_o (pX19_costAbove_120 hK38 h) (fun a2 => zp_k (zp_i (pX19_costAbove_120 hK38 h) (zp_k (zp_i (pX19_costAbove_120 hK38 h) (zp_k (zp_l (fun v8 => pX19_costAbove_120 hK38 h)))))))
theorem pX19_costAbove_38b {z0 z : St} {N : Nat} {K38 : Nat → Int32 → Int32 → Int32 → St → Option (Int32 × St)} {x0 : Nat} {x2 : Int32} {x4 : Int32} {x5 : Int32} (hK38 : ∀ a0 a1 a2 a3 a4, zEq zClP z0 a4 → zPr zClP z0 (K38 a0 a1 a2 a3 a4)) (h : zEq zClP z0 z) : zPr zClP z0 (fX19_costAbove_38b N K38 x0 x2 x4 x5 z) := by
  unfold fX19_costAbove_38b
  exact zp_i (zp_i (zp_s h) (zp_s h)) (zp_c (pX19_isRouter  h) (fun r3 z4 h1 => zp_i (pX19_costAbove_67 hK38 h1) (zp_c (pX19_portOn  h1) (fun r8 z9 h2 => pX19_costAbove_67 hK38 h2))))
theorem pX19_costAbove_38 {z0 : St} {N : Nat} : ∀ (n : Nat) (y0 : Nat) (y1 : Int32) (y2 : Int32) (y3 : Int32) (z : St), zEq zClP z0 z → zPr zClP z0 (fX19_costAbove_38 N n y0 y1 y2 y3 z) := by
  intro n
  induction n with
  | zero => intro y0 y1 y2 y3 z h; exact zp_n
  | succ n ih => intro y0 y1 y2 y3 z h; exact pX19_costAbove_38b  (fun _ _ _ _ _ h => ih _ _ _ _ _ h) h
theorem pX19_costAbove {z0 z : St} {N : Nat} {x0 : Nat} {x1 : Int32} {x2 : Int32} (h : zEq zClP z0 z) : zPr zClP z0 (fX19_costAbove N x0 x1 x2 z) := by
  unfold fX19_costAbove
  exact zp_k (zp_l (fun y2 => zp_d (fun a3 => zp_i (zp_c (pX19_portOn  h) (fun r5 z6 h1 => zp_o (pX19_costAbove_38  _ _ _ _ _ _ h1) (fun a10 => zp_s h1))) (zp_s h))))
theorem pX19_shouldCost_22 {z0 z : St} {N : Nat} {x0 : Nat} {x1 : Int32} {x2 : Int32} {s0 : Nat} {s1 : Int32} (h : zEq zClP z0 z) : zPr zClP z0 (fX19_shouldCost_22 N x0 x1 x2 s0 s1 z) := by
  unfold fX19_shouldCost_22
  exact zp_c (pX19_fails  h) (fun r1 z2 h1 => zp_i (zp_c (pX19_fromAbove  h1) (fun _ z7 h2 => zp_c (pX19_costAbove  h2) (fun r10 z11 h3 => zp_s h3))) (zp_s h1))
theorem pX19_shouldCost_17 {z0 z : St} {N : Nat} {x0 : Nat} {x1 : Int32} {x2 : Int32} {s0 : Nat} (h : zEq zClP z0 z) : zPr zClP z0 (fX19_shouldCost_17 N x0 x1 x2 s0 z) := by
  unfold fX19_shouldCost_17
  exact pX19_shouldCost_22  h
theorem pX19_shouldCost {z0 z : St} {N : Nat} {x0 : Nat} {x1 : Int32} {x2 : Int32} (h : zEq zClP z0 z) : zPr zClP z0 (fX19_shouldCost N x0 x1 x2 z) := by
  unfold fX19_shouldCost
  exact zp_c (pX19_isRouter  h) (fun r1 z2 h1 => zp_i (pX19_shouldCost_17  h1) (zp_c (pX19_isNet  h1) (fun r6 z7 h2 => zp_i (pX19_shouldCost_22  h2) (pX19_shouldCost_17  h2))))
theorem pX19_boundNow_38 {z0 z : St} {N : Nat} {K4 : Nat → Int32 → Int32 → St → Option (Int32 × St)} {x0 : Nat} {x2 : Int32} {s0 : Int32} (hK4 : ∀ a0 a1 a2 a3, zEq zClP z0 a3 → zPr zClP z0 (K4 a0 a1 a2 a3)) (h : zEq zClP z0 z) : zPr zClP z0 (fX19_boundNow_38 N K4 x0 x2 s0 z) := by
  unfold fX19_boundNow_38
  exact zp_l (fun v1 => hK4 _ _ _ _ h)
theorem pX19_boundNow_4b {z0 z : St} {N : Nat} {K4 : Nat → Int32 → Int32 → St → Option (Int32 × St)} {x0 : Nat} {x1 : Int32} {x2 : Int32} (hK4 : ∀ a0 a1 a2 a3, zEq zClP z0 a3 → zPr zClP z0 (K4 a0 a1 a2 a3)) (h : zEq zClP z0 z) : zPr zClP z0 (fX19_boundNow_4b N K4 x0 x1 x2 z) := by
  unfold fX19_boundNow_4b
  exact zp_i (zp_s h) (zp_k (zp_l (fun y3 => zp_d (fun a4 => zp_i (pX19_boundNow_38 hK4 h) (zp_k (zp_l (fun y7 => zp_d (fun a8 => pX19_boundNow_38 hK4 h))))))))
theorem pX19_boundNow_4 {z0 : St} {N : Nat} : ∀ (n : Nat) (y0 : Nat) (y1 : Int32) (y2 : Int32) (z : St), zEq zClP z0 z → zPr zClP z0 (fX19_boundNow_4 N n y0 y1 y2 z) := by
  intro n
  induction n with
  | zero => intro y0 y1 y2 z h; exact zp_n
  | succ n ih => intro y0 y1 y2 z h; exact pX19_boundNow_4b  (fun _ _ _ _ h => ih _ _ _ _ h) h
theorem pX19_boundNow {z0 z : St} {N : Nat} {x0 : Nat} (h : zEq zClP z0 z) : zPr zClP z0 (fX19_boundNow N x0 z) := by
  unfold fX19_boundNow
  exact pX19_boundNow_4  _ _ _ _ _ h
theorem pX19_bound {z0 z : St} {N : Nat} {x0 : Nat} (h : zEq zClP z0 z) : zPr zClP z0 (fX19_bound N x0 z) := by
  unfold fX19_bound
  exact zp_lI h rfl (fun z1 h1 => zp_c (pX19_boundNow  h1) (fun r2 z3 h2 => zp_s h2))
theorem pX19_drain_29 {z0 z : St} {N : Nat} {x0 : Nat} {x1 : Int32} {x2 : Int32} {x3 : Int32} {s0 : Nat} {s1 : Int32} {s2 : Int32} (h : zEq zClP z0 z) : zPr zClP z0 (fX19_drain_29 N x0 x1 x2 x3 s0 s1 s2 z) := by
  unfold fX19_drain_29
  exact zp_c (pX19_fails  h) (fun r1 z2 h1 => zp_i (zp_s h1) (zp_k (zp_l (fun y7 => zp_d (fun a8 => zp_k (zp_l (fun y10 => zp_d (fun a11 => zp_q (zp_lI h1 rfl (fun z12 h2 => zp_s h2))))))))))
theorem pX19_drain_15 {z0 z : St} {N : Nat} {x0 : Nat} {x1 : Int32} {x2 : Int32} {x3 : Int32} {s0 : Nat} {s1 : Int32} (h : zEq zClP z0 z) : zPr zClP z0 (fX19_drain_15 N x0 x1 x2 x3 s0 s1 z) := by
  unfold fX19_drain_15
  exact zp_c (pX19_endAt  h) (fun r1 z2 h1 => zp_o (pX19_drain_29  h1) (fun a6 => pX19_drain_29  h1))
theorem pX19_drain {z0 z : St} {N : Nat} {x0 : Nat} {x1 : Int32} {x2 : Int32} {x3 : Int32} (h : zEq zClP z0 z) : zPr zClP z0 (fX19_drain N x0 x1 x2 x3 z) := by
  unfold fX19_drain
  exact zp_c (pX19_isDoor  h) (fun r1 z2 h1 => zp_i (pX19_drain_15  h1) (pX19_drain_15  h1))
theorem pX19_drained_15 {z0 z : St} {N : Nat} {x0 : Nat} {x1 : Int32} {x2 : Int32} {s0 : Nat} {s1 : Int32} (h : zEq zClP z0 z) : zPr zClP z0 (fX19_drained_15 N x0 x1 x2 s0 s1 z) := by
  unfold fX19_drained_15
  exact zp_c (pX19_fails  h) (fun r1 z2 h1 => zp_i (zp_k (zp_l (fun y7 => zp_d (fun a8 => zp_k (zp_l (fun y10 => zp_d (fun a11 => zp_s h1))))))) (zp_s h1))
theorem pX19_drained {z0 z : St} {N : Nat} {x0 : Nat} {x1 : Int32} {x2 : Int32} (h : zEq zClP z0 z) : zPr zClP z0 (fX19_drained N x0 x1 x2 z) := by
  unfold fX19_drained
  exact zp_c (pX19_isDoor  h) (fun r1 z2 h1 => zp_i (pX19_drained_15  h1) (pX19_drained_15  h1))
theorem pX19_strays {z0 z : St} {N : Nat} {x0 : Nat} (h : zEq zClP z0 z) : zPr zClP z0 (fX19_strays N x0 z) := by
  unfold fX19_strays
  exact zp_lI h rfl (fun z1 h1 => zp_s h1)
theorem pX19_areJoined_49 {z0 z : St} {N : Nat} {K28 : Nat → Int32 → Int32 → Int32 → St → Option (Int32 × St)} {x0 : Nat} {x1 : Int32} {x2 : Int32} {x3 : Int32} {s0 : Nat} {s1 : Int32} {s2 : Int32} (hK28 : ∀ a0 a1 a2 a3 a4, zEq zClP z0 a4 → zPr zClP z0 (K28 a0 a1 a2 a3 a4)) (h : zEq zClP z0 z) : zPr zClP z0 (fX19_areJoined_49 N K28 x0 x1 x2 x3 s0 s1 s2 z) := by
  unfold fX19_areJoined_49
  exact zp_k (zp_lA h rfl (fun z2 h1 => zp_l (fun v3 => hK28 _ _ _ _ _ h1)))
theorem pX19_areJoined_143 {z0 z : St} {N : Nat} {K58 : Nat → Int32 → Int32 → St → Option (Int32 × St)} {K67 : Nat → Int32 → Int32 → Int32 → St → Option (Int32 × St)} {K82 : Nat → Int32 → Int32 → Int32 → Int32 → Int32 → St → Option (Int32 × St)} {x0 : Nat} {x2 : Int32} {x3 : Int32} {x4 : Int32} {x6 : Int32} {s0 : Int32} (hK58 : ∀ a0 a1 a2 a3, zEq zClP z0 a3 → zPr zClP z0 (K58 a0 a1 a2 a3)) (hK67 : ∀ a0 a1 a2 a3 a4, zEq zClP z0 a4 → zPr zClP z0 (K67 a0 a1 a2 a3 a4)) (hK82 : ∀ a0 a1 a2 a3 a4 a5 a6, zEq zClP z0 a6 → zPr zClP z0 (K82 a0 a1 a2 a3 a4 a5 a6)) (h : zEq zClP z0 z) : zPr zClP z0 (fX19_areJoined_143 N K58 K67 K82 x0 x2 x3 x4 x6 s0 z) := by
  unfold fX19_areJoined_143
  exact zp_l (fun v1 => hK82 _ _ _ _ _ _ _ h)
theorem pX19_areJoined_138 {z0 z : St} {N : Nat} {K58 : Nat → Int32 → Int32 → St → Option (Int32 × St)} {K67 : Nat → Int32 → Int32 → Int32 → St → Option (Int32 × St)} {K82 : Nat → Int32 → Int32 → Int32 → Int32 → Int32 → St → Option (Int32 × St)} {x0 : Nat} {x2 : Int32} {x3 : Int32} {x4 : Int32} {x6 : Int32} (hK58 : ∀ a0 a1 a2 a3, zEq zClP z0 a3 → zPr zClP z0 (K58 a0 a1 a2 a3)) (hK67 : ∀ a0 a1 a2 a3 a4, zEq zClP z0 a4 → zPr zClP z0 (K67 a0 a1 a2 a3 a4)) (hK82 : ∀ a0 a1 a2 a3 a4 a5 a6, zEq zClP z0 a6 → zPr zClP z0 (K82 a0 a1 a2 a3 a4 a5 a6)) (h : zEq zClP z0 z) : zPr zClP z0 (fX19_areJoined_138 N K58 K67 K82 x0 x2 x3 x4 x6 z) := by
  unfold fX19_areJoined_138
  exact pX19_areJoined_143 hK58 hK67 hK82 h
theorem pX19_areJoined_226 {z0 z : St} {N : Nat} {K58 : Nat → Int32 → Int32 → St → Option (Int32 × St)} {K67 : Nat → Int32 → Int32 → Int32 → St → Option (Int32 × St)} {K154 : Nat → Int32 → Int32 → Int32 → Int32 → Int32 → St → Option (Int32 × St)} {x0 : Nat} {x2 : Int32} {x3 : Int32} {x4 : Int32} {x5 : Int32} {x6 : Int32} (hK58 : ∀ a0 a1 a2 a3, zEq zClP z0 a3 → zPr zClP z0 (K58 a0 a1 a2 a3)) (hK67 : ∀ a0 a1 a2 a3 a4, zEq zClP z0 a4 → zPr zClP z0 (K67 a0 a1 a2 a3 a4)) (hK154 : ∀ a0 a1 a2 a3 a4 a5 a6, zEq zClP z0 a6 → zPr zClP z0 (K154 a0 a1 a2 a3 a4 a5 a6)) (h : zEq zClP z0 z) : zPr zClP z0 (fX19_areJoined_226 N K58 K67 K154 x0 x2 x3 x4 x5 x6 z) := by
  unfold fX19_areJoined_226
  exact zp_l (fun v1 => hK154 _ _ _ _ _ _ _ h)
theorem pX19_areJoined_232 {z0 z : St} {N : Nat} {K58 : Nat → Int32 → Int32 → St → Option (Int32 × St)} {K67 : Nat → Int32 → Int32 → Int32 → St → Option (Int32 × St)} {x0 : Nat} {x2 : Int32} {x3 : Int32} {x4 : Int32} (hK58 : ∀ a0 a1 a2 a3, zEq zClP z0 a3 → zPr zClP z0 (K58 a0 a1 a2 a3)) (hK67 : ∀ a0 a1 a2 a3 a4, zEq zClP z0 a4 → zPr zClP z0 (K67 a0 a1 a2 a3 a4)) (h : zEq zClP z0 z) : zPr zClP z0 (fX19_areJoined_232 N K58 K67 x0 x2 x3 x4 z) := by
  unfold fX19_areJoined_232
  exact zp_l (fun v1 => hK67 _ _ _ _ _ h)
theorem pX19_areJoined_154b {z0 z : St} {N : Nat} {K58 : Nat → Int32 → Int32 → St → Option (Int32 × St)} {K67 : Nat → Int32 → Int32 → Int32 → St → Option (Int32 × St)} {K154 : Nat → Int32 → Int32 → Int32 → Int32 → Int32 → St → Option (Int32 × St)} {x0 : Nat} {x2 : Int32} {x3 : Int32} {x4 : Int32} {x5 : Int32} {x6 : Int32} (hK58 : ∀ a0 a1 a2 a3, zEq zClP z0 a3 → zPr zClP z0 (K58 a0 a1 a2 a3)) (hK67 : ∀ a0 a1 a2 a3 a4, zEq zClP z0 a4 → zPr zClP z0 (K67 a0 a1 a2 a3 a4)) (hK154 : ∀ a0 a1 a2 a3 a4 a5 a6, zEq zClP z0 a6 → zPr zClP z0 (K154 a0 a1 a2 a3 a4 a5 a6)) (h : zEq zClP z0 z) : zPr zClP z0 (fX19_areJoined_154b N K58 K67 K154 x0 x2 x3 x4 x5 x6 z) := by
  unfold fX19_areJoined_154b
  exact zp_i (pX19_areJoined_232 hK58 hK67 h) (zp_k (zp_l (fun y3 => zp_d (fun a4 => zp_i (pX19_areJoined_232 hK58 hK67 h) (zp_k (zp_l (fun y7 => zp_d (fun a8 => zp_k (zp_l (fun y10 => zp_d (fun a11 => zp_l (fun y12 => zp_d (fun a13 => zp_i (pX19_areJoined_226 hK58 hK67 hK154 h) (zp_k (zp_i (pX19_areJoined_226 hK58 hK67 hK154 h) (zp_k (zp_lA h rfl (fun z18 h1 => pX19_areJoined_226 hK58 hK67 hK154 h1))))))))))))))))))
theorem pX19_areJoined_154 {z0 : St} {N : Nat} {K58 : Nat → Int32 → Int32 → St → Option (Int32 × St)} {K67 : Nat → Int32 → Int32 → Int32 → St → Option (Int32 × St)} (hK58 : ∀ a0 a1 a2 a3, zEq zClP z0 a3 → zPr zClP z0 (K58 a0 a1 a2 a3)) (hK67 : ∀ a0 a1 a2 a3 a4, zEq zClP z0 a4 → zPr zClP z0 (K67 a0 a1 a2 a3 a4)) : ∀ (n : Nat) (y0 : Nat) (y1 : Int32) (y2 : Int32) (y3 : Int32) (y4 : Int32) (y5 : Int32) (z : St), zEq zClP z0 z → zPr zClP z0 (fX19_areJoined_154 N K58 K67 n y0 y1 y2 y3 y4 y5 z) := by
  intro n
  induction n with
  | zero => intro y0 y1 y2 y3 y4 y5 z h; exact zp_n
  | succ n ih => intro y0 y1 y2 y3 y4 y5 z h; exact pX19_areJoined_154b hK58 hK67 (fun _ _ _ _ _ _ _ h => ih _ _ _ _ _ _ _ h) h
theorem pX19_areJoined_151 {z0 z : St} {N : Nat} {K58 : Nat → Int32 → Int32 → St → Option (Int32 × St)} {K67 : Nat → Int32 → Int32 → Int32 → St → Option (Int32 × St)} {x0 : Nat} {x2 : Int32} {x3 : Int32} {x4 : Int32} {x5 : Int32} (hK58 : ∀ a0 a1 a2 a3, zEq zClP z0 a3 → zPr zClP z0 (K58 a0 a1 a2 a3)) (hK67 : ∀ a0 a1 a2 a3 a4, zEq zClP z0 a4 → zPr zClP z0 (K67 a0 a1 a2 a3 a4)) (h : zEq zClP z0 z) : zPr zClP z0 (fX19_areJoined_151 N K58 K67 x0 x2 x3 x4 x5 z) := by
  unfold fX19_areJoined_151
  exact pX19_areJoined_154 hK58 hK67 _ _ _ _ _ _ _ _ h
theorem pX19_areJoined_82b {z0 z : St} {N : Nat} {K58 : Nat → Int32 → Int32 → St → Option (Int32 × St)} {K67 : Nat → Int32 → Int32 → Int32 → St → Option (Int32 × St)} {K82 : Nat → Int32 → Int32 → Int32 → Int32 → Int32 → St → Option (Int32 × St)} {x0 : Nat} {x2 : Int32} {x3 : Int32} {x4 : Int32} {x5 : Int32} {x6 : Int32} (hK58 : ∀ a0 a1 a2 a3, zEq zClP z0 a3 → zPr zClP z0 (K58 a0 a1 a2 a3)) (hK67 : ∀ a0 a1 a2 a3 a4, zEq zClP z0 a4 → zPr zClP z0 (K67 a0 a1 a2 a3 a4)) (hK82 : ∀ a0 a1 a2 a3 a4 a5 a6, zEq zClP z0 a6 → zPr zClP z0 (K82 a0 a1 a2 a3 a4 a5 a6)) (h : zEq zClP z0 z) : zPr zClP z0 (fX19_areJoined_82b N K58 K67 K82 x0 x2 x3 x4 x5 x6 z) := by
  unfold fX19_areJoined_82b
  exact zp_c (pX19_isRouter  h) (fun r1 z2 h1 => zp_i (pX19_areJoined_151 hK58 hK67 h1) (zp_k (zp_l (fun y7 => zp_d (fun a8 => zp_i (pX19_areJoined_151 hK58 hK67 h1) (zp_i (pX19_areJoined_138 hK58 hK67 hK82 h1) (zp_k (zp_l (fun y12 => zp_d (fun a13 => zp_k (zp_l (fun y15 => zp_d (fun a16 => zp_l (fun y17 => zp_d (fun a18 => zp_k (zp_i (pX19_areJoined_143 hK58 hK67 hK82 h1) (pX19_areJoined_138 hK58 hK67 hK82 h1)))))))))))))))))
theorem pX19_areJoined_82 {z0 : St} {N : Nat} {K58 : Nat → Int32 → Int32 → St → Option (Int32 × St)} {K67 : Nat → Int32 → Int32 → Int32 → St → Option (Int32 × St)} (hK58 : ∀ a0 a1 a2 a3, zEq zClP z0 a3 → zPr zClP z0 (K58 a0 a1 a2 a3)) (hK67 : ∀ a0 a1 a2 a3 a4, zEq zClP z0 a4 → zPr zClP z0 (K67 a0 a1 a2 a3 a4)) : ∀ (n : Nat) (y0 : Nat) (y1 : Int32) (y2 : Int32) (y3 : Int32) (y4 : Int32) (y5 : Int32) (z : St), zEq zClP z0 z → zPr zClP z0 (fX19_areJoined_82 N K58 K67 n y0 y1 y2 y3 y4 y5 z) := by
  intro n
  induction n with
  | zero => intro y0 y1 y2 y3 y4 y5 z h; exact zp_n
  | succ n ih => intro y0 y1 y2 y3 y4 y5 z h; exact pX19_areJoined_82b hK58 hK67 (fun _ _ _ _ _ _ _ h => ih _ _ _ _ _ _ _ h) h
theorem pX19_areJoined_67b {z0 z : St} {N : Nat} {K58 : Nat → Int32 → Int32 → St → Option (Int32 × St)} {K67 : Nat → Int32 → Int32 → Int32 → St → Option (Int32 × St)} {x0 : Nat} {x2 : Int32} {x3 : Int32} {x4 : Int32} (hK58 : ∀ a0 a1 a2 a3, zEq zClP z0 a3 → zPr zClP z0 (K58 a0 a1 a2 a3)) (hK67 : ∀ a0 a1 a2 a3 a4, zEq zClP z0 a4 → zPr zClP z0 (K67 a0 a1 a2 a3 a4)) (h : zEq zClP z0 z) : zPr zClP z0 (fX19_areJoined_67b N K58 K67 x0 x2 x3 x4 z) := by
  unfold fX19_areJoined_67b
  exact zp_i (hK58 _ _ _ _ h) (pX19_areJoined_82 hK58 hK67 _ _ _ _ _ _ _ _ h)
theorem pX19_areJoined_67 {z0 : St} {N : Nat} {K58 : Nat → Int32 → Int32 → St → Option (Int32 × St)} (hK58 : ∀ a0 a1 a2 a3, zEq zClP z0 a3 → zPr zClP z0 (K58 a0 a1 a2 a3)) : ∀ (n : Nat) (y0 : Nat) (y1 : Int32) (y2 : Int32) (y3 : Int32) (z : St), zEq zClP z0 z → zPr zClP z0 (fX19_areJoined_67 N K58 n y0 y1 y2 y3 z) := by
  intro n
  induction n with
  | zero => intro y0 y1 y2 y3 z h; exact zp_n
  | succ n ih => intro y0 y1 y2 y3 z h; exact pX19_areJoined_67b hK58 (fun _ _ _ _ _ h => ih _ _ _ _ _ h) h
theorem pX19_areJoined_58b {z0 z : St} {N : Nat} {K58 : Nat → Int32 → Int32 → St → Option (Int32 × St)} {x0 : Nat} {x2 : Int32} {x3 : Int32} (hK58 : ∀ a0 a1 a2 a3, zEq zClP z0 a3 → zPr zClP z0 (K58 a0 a1 a2 a3)) (h : zEq zClP z0 z) : zPr zClP z0 (fX19_areJoined_58b N K58 x0 x2 x3 z) := by
  unfold fX19_areJoined_58b
  exact zp_i (zp_k (zp_q (zp_s h))) (pX19_areJoined_67 hK58 _ _ _ _ _ _ h)
theorem pX19_areJoined_58 {z0 : St} {N : Nat} : ∀ (n : Nat) (y0 : Nat) (y1 : Int32) (y2 : Int32) (z : St), zEq zClP z0 z → zPr zClP z0 (fX19_areJoined_58 N n y0 y1 y2 z) := by
  intro n
  induction n with
  | zero => intro y0 y1 y2 z h; exact zp_n
  | succ n ih => intro y0 y1 y2 z h; exact pX19_areJoined_58b  (fun _ _ _ _ h => ih _ _ _ _ h) h
theorem pX19_areJoined_28b {z0 z : St} {N : Nat} {K28 : Nat → Int32 → Int32 → Int32 → St → Option (Int32 × St)} {x0 : Nat} {x1 : Int32} {x2 : Int32} {x3 : Int32} (hK28 : ∀ a0 a1 a2 a3 a4, zEq zClP z0 a4 → zPr zClP z0 (K28 a0 a1 a2 a3 a4)) (h : zEq zClP z0 z) : zPr zClP z0 (fX19_areJoined_28b N K28 x0 x1 x2 x3 z) := by
  unfold fX19_areJoined_28b
  exact zp_i (pX19_areJoined_58  _ _ _ _ _ h) (zp_i (pX19_areJoined_49 hK28 h) (pX19_areJoined_49 hK28 h))
theorem pX19_areJoined_28 {z0 : St} {N : Nat} : ∀ (n : Nat) (y0 : Nat) (y1 : Int32) (y2 : Int32) (y3 : Int32) (z : St), zEq zClP z0 z → zPr zClP z0 (fX19_areJoined_28 N n y0 y1 y2 y3 z) := by
  intro n
  induction n with
  | zero => intro y0 y1 y2 y3 z h; exact zp_n
  | succ n ih => intro y0 y1 y2 y3 z h; exact pX19_areJoined_28b  (fun _ _ _ _ _ h => ih _ _ _ _ _ h) h
theorem pX19_areJoined {z0 z : St} {N : Nat} {x0 : Nat} {x1 : Int32} {x2 : Int32} (h : zEq zClP z0 z) : zPr zClP z0 (fX19_areJoined N x0 x1 x2 z) := by
  unfold fX19_areJoined
  exact zp_k (zp_l (fun y2 => zp_d (fun a3 => zp_i (zp_s h) (zp_k (zp_l (fun y6 => zp_d (fun a7 => zp_i (pX19_areJoined_28  _ _ _ _ _ _ h) (zp_s h))))))))
theorem pX19_netOfHost_54 {z0 z : St} {N : Nat} {K2 : Nat → Int32 → Int32 → St → Option (Int32 × St)} {x0 : Nat} {x1 : Int32} {x2 : Int32} (hK2 : ∀ a0 a1 a2 a3, zEq zClP z0 a3 → zPr zClP z0 (K2 a0 a1 a2 a3)) (h : zEq zClP z0 z) : zPr zClP z0 (fX19_netOfHost_54 N K2 x0 x1 x2 z) := by
  unfold fX19_netOfHost_54
  exact zp_l (fun v1 => hK2 _ _ _ _ h)
theorem pX19_netOfHost_2b {z0 z : St} {N : Nat} {K2 : Nat → Int32 → Int32 → St → Option (Int32 × St)} {x0 : Nat} {x1 : Int32} {x2 : Int32} (hK2 : ∀ a0 a1 a2 a3, zEq zClP z0 a3 → zPr zClP z0 (K2 a0 a1 a2 a3)) (h : zEq zClP z0 z) : zPr zClP z0 (fX19_netOfHost_2b N K2 x0 x1 x2 z) := by
  unfold fX19_netOfHost_2b
  exact zp_i (zp_s h) (zp_k (zp_l (fun y3 => zp_d (fun a4 => zp_i (pX19_netOfHost_54 hK2 h) (zp_k (zp_l (fun y7 => zp_d (fun a8 => zp_c (pX19_isOwn  h) (fun r9 z10 h1 => zp_i (pX19_netOfHost_54 hK2 h1) (zp_k (zp_l (fun y15 => zp_d (fun a16 => zp_k (zp_l (fun y18 => zp_d (fun a19 => zp_l (fun y20 => zp_d (fun a21 => zp_s h1))))))))))))))))))
theorem pX19_netOfHost_2 {z0 : St} {N : Nat} : ∀ (n : Nat) (y0 : Nat) (y1 : Int32) (y2 : Int32) (z : St), zEq zClP z0 z → zPr zClP z0 (fX19_netOfHost_2 N n y0 y1 y2 z) := by
  intro n
  induction n with
  | zero => intro y0 y1 y2 z h; exact zp_n
  | succ n ih => intro y0 y1 y2 z h; exact pX19_netOfHost_2b  (fun _ _ _ _ h => ih _ _ _ _ h) h
theorem pX19_netOfHost {z0 z : St} {N : Nat} {x0 : Nat} {x1 : Int32} (h : zEq zClP z0 z) : zPr zClP z0 (fX19_netOfHost N x0 x1 z) := by
  unfold fX19_netOfHost
  exact pX19_netOfHost_2  _ _ _ _ _ h
theorem pX19_isLate {z0 z : St} {N : Nat} {x0 : Nat} {x1 : Nat} {x2 : Nat} (h : zEq zClP z0 z) : zPr zClP z0 (fX19_isLate N x0 x1 x2 z) := by
  unfold fX19_isLate
  exact zp_i (zp_s h) (zp_l (fun y2 => zp_d (fun a3 => zp_i (zp_s h) (zp_l (fun y5 => zp_d (fun a6 => zp_i (zp_s h) (zp_l (fun y8 => zp_d (fun a9 => zp_c (pX14_unthanked  h) (fun r10 z11 h1 => zp_i (zp_l (fun y15 => zp_d (fun a16 => zp_c (pX19_netOfHost  h1) (fun r17 z18 h2 => zp_i (zp_s h2) (zp_k (zp_l (fun y23 => zp_d (fun a24 => zp_l (fun y25 => zp_d (fun a26 => zp_c (pX19_areJoined  h2) (fun r27 z28 h3 => zp_i (zp_s h3) (zp_s h3)))))))))))) (zp_s h1)))))))))))
theorem pX19_overdue_88 {z0 z : St} {N : Nat} {K27 : Nat → Int32 → Int32 → St → Option (Int32 × St)} {K54 : Nat → Int32 → Int32 → Int32 → St → Option (Int32 × St)} {x0 : Nat} {x2 : Int32} {x3 : Int32} {s0 : Int32} {s1 : Int32} (hK27 : ∀ a0 a1 a2 a3, zEq zClP z0 a3 → zPr zClP z0 (K27 a0 a1 a2 a3)) (hK54 : ∀ a0 a1 a2 a3 a4, zEq zClP z0 a4 → zPr zClP z0 (K54 a0 a1 a2 a3 a4)) (h : zEq zClP z0 z) : zPr zClP z0 (fX19_overdue_88 N K27 K54 x0 x2 x3 s0 s1 z) := by
  unfold fX19_overdue_88
  exact zp_l (fun v1 => zp_l (fun v2 => hK54 _ _ _ _ _ h))
theorem pX19_overdue_145 {z0 z : St} {N : Nat} {K27 : Nat → Int32 → Int32 → St → Option (Int32 × St)} {x0 : Nat} {x1 : Int32} {x2 : Int32} (hK27 : ∀ a0 a1 a2 a3, zEq zClP z0 a3 → zPr zClP z0 (K27 a0 a1 a2 a3)) (h : zEq zClP z0 z) : zPr zClP z0 (fX19_overdue_145 N K27 x0 x1 x2 z) := by
  unfold fX19_overdue_145
  exact zp_l (fun v1 => hK27 _ _ _ _ h)
theorem pX19_overdue_54b {z0 z : St} {N : Nat} {K27 : Nat → Int32 → Int32 → St → Option (Int32 × St)} {K54 : Nat → Int32 → Int32 → Int32 → St → Option (Int32 × St)} {x0 : Nat} {x1 : Int32} {x2 : Int32} {x3 : Int32} (hK27 : ∀ a0 a1 a2 a3, zEq zClP z0 a3 → zPr zClP z0 (K27 a0 a1 a2 a3)) (hK54 : ∀ a0 a1 a2 a3 a4, zEq zClP z0 a4 → zPr zClP z0 (K54 a0 a1 a2 a3 a4)) (h : zEq zClP z0 z) : zPr zClP z0 (fX19_overdue_54b N K27 K54 x0 x1 x2 x3 z) := by
  unfold fX19_overdue_54b
  exact zp_i (pX19_overdue_145 hK27 h) (zp_k (zp_l (fun y3 => zp_d (fun a4 => zp_k (zp_c (pX19_costAbove  h) (fun r6 z7 h1 => zp_i (pX19_overdue_88 hK27 hK54 h1) (pX19_overdue_88 hK27 hK54 h1)))))))
theorem pX19_overdue_54 {z0 : St} {N : Nat} {K27 : Nat → Int32 → Int32 → St → Option (Int32 × St)} (hK27 : ∀ a0 a1 a2 a3, zEq zClP z0 a3 → zPr zClP z0 (K27 a0 a1 a2 a3)) : ∀ (n : Nat) (y0 : Nat) (y1 : Int32) (y2 : Int32) (y3 : Int32) (z : St), zEq zClP z0 z → zPr zClP z0 (fX19_overdue_54 N K27 n y0 y1 y2 y3 z) := by
  intro n
  induction n with
  | zero => intro y0 y1 y2 y3 z h; exact zp_n
  | succ n ih => intro y0 y1 y2 y3 z h; exact pX19_overdue_54b hK27 (fun _ _ _ _ _ h => ih _ _ _ _ _ h) h
theorem pX19_overdue_137 {z0 z : St} {N : Nat} {K27 : Nat → Int32 → Int32 → St → Option (Int32 × St)} {K101 : Nat → Int32 → Int32 → Int32 → St → Option (Int32 × St)} {x0 : Nat} {x2 : Int32} {x3 : Int32} {s0 : Int32} {s1 : Int32} (hK27 : ∀ a0 a1 a2 a3, zEq zClP z0 a3 → zPr zClP z0 (K27 a0 a1 a2 a3)) (hK101 : ∀ a0 a1 a2 a3 a4, zEq zClP z0 a4 → zPr zClP z0 (K101 a0 a1 a2 a3 a4)) (h : zEq zClP z0 z) : zPr zClP z0 (fX19_overdue_137 N K27 K101 x0 x2 x3 s0 s1 z) := by
  unfold fX19_overdue_137
  exact zp_l (fun v1 => zp_l (fun v2 => hK101 _ _ _ _ _ h))
theorem pX19_overdue_101b {z0 z : St} {N : Nat} {K27 : Nat → Int32 → Int32 → St → Option (Int32 × St)} {K101 : Nat → Int32 → Int32 → Int32 → St → Option (Int32 × St)} {x0 : Nat} {x1 : Int32} {x2 : Int32} {x3 : Int32} (hK27 : ∀ a0 a1 a2 a3, zEq zClP z0 a3 → zPr zClP z0 (K27 a0 a1 a2 a3)) (hK101 : ∀ a0 a1 a2 a3 a4, zEq zClP z0 a4 → zPr zClP z0 (K101 a0 a1 a2 a3 a4)) (h : zEq zClP z0 z) : zPr zClP z0 (fX19_overdue_101b N K27 K101 x0 x1 x2 x3 z) := by
  unfold fX19_overdue_101b
  exact zp_i (pX19_overdue_145 hK27 h) (zp_k (zp_l (fun y3 => zp_k (zp_l (fun y5 => zp_d (fun a6 => zp_k (zp_l (fun y8 => zp_d (fun a9 => zp_d (fun a10 => zp_c (pX19_isLate  h) (fun r11 z12 h1 => zp_i (pX19_overdue_137 hK27 hK101 h1) (pX19_overdue_137 hK27 hK101 h1))))))))))))
theorem pX19_overdue_101 {z0 : St} {N : Nat} {K27 : Nat → Int32 → Int32 → St → Option (Int32 × St)} (hK27 : ∀ a0 a1 a2 a3, zEq zClP z0 a3 → zPr zClP z0 (K27 a0 a1 a2 a3)) : ∀ (n : Nat) (y0 : Nat) (y1 : Int32) (y2 : Int32) (y3 : Int32) (z : St), zEq zClP z0 z → zPr zClP z0 (fX19_overdue_101 N K27 n y0 y1 y2 y3 z) := by
  intro n
  induction n with
  | zero => intro y0 y1 y2 y3 z h; exact zp_n
  | succ n ih => intro y0 y1 y2 y3 z h; exact pX19_overdue_101b hK27 (fun _ _ _ _ _ h => ih _ _ _ _ _ h) h
theorem pX19_overdue_27b {z0 z : St} {N : Nat} {K27 : Nat → Int32 → Int32 → St → Option (Int32 × St)} {x0 : Nat} {x1 : Int32} {x2 : Int32} (hK27 : ∀ a0 a1 a2 a3, zEq zClP z0 a3 → zPr zClP z0 (K27 a0 a1 a2 a3)) (h : zEq zClP z0 z) : zPr zClP z0 (fX19_overdue_27b N K27 x0 x1 x2 z) := by
  unfold fX19_overdue_27b
  exact zp_i (zp_s h) (zp_k (zp_l (fun y3 => zp_d (fun a4 => zp_i (pX19_overdue_101 hK27 _ _ _ _ _ _ h) (zp_c (pX19_fromAbove  h) (fun _ z7 h1 => pX19_overdue_54 hK27 _ _ _ _ _ _ h1))))))
theorem pX19_overdue_27 {z0 : St} {N : Nat} : ∀ (n : Nat) (y0 : Nat) (y1 : Int32) (y2 : Int32) (z : St), zEq zClP z0 z → zPr zClP z0 (fX19_overdue_27 N n y0 y1 y2 z) := by
  intro n
  induction n with
  | zero => intro y0 y1 y2 z h; exact zp_n
  | succ n ih => intro y0 y1 y2 z h; exact pX19_overdue_27b  (fun _ _ _ _ h => ih _ _ _ _ h) h
theorem pX19_overdue {z0 z : St} {N : Nat} {x0 : Nat} (h : zEq zClP z0 z) : zPr zClP z0 (fX19_overdue N x0 z) := by
  unfold fX19_overdue
  exact zp_lI h rfl (fun z1 h1 => zp_c (pX19_boundNow  h1) (fun r2 z3 h2 => zp_i (pX19_overdue_27  _ _ _ _ _ h2) (zp_s h2)))
theorem pX11_net_13 {z0 z : St} {N : Nat} (h : zEq zRfP z0 z) : zPr zRfP z0 (fX11_net_13 N z) := by
  unfold fX11_net_13
  exact zp_s h
theorem pX11_net_34 {z0 z : St} {N : Nat} (h : zEq zRfP z0 z) : zPr zRfP z0 (fX11_net_34 N z) := by
  unfold fX11_net_34
  exact zp_s h
theorem pX11_net {z0 z : St} {N : Nat} {x0 : Nat} {x1 : Int32} {x2 : Int32} (h : zEq zRfP z0 z) : zPr zRfP z0 (fX11_net N x0 x1 x2 z) := by
  unfold fX11_net
  exact zp_i (pX11_net_13  h) (zp_i (zp_i (pX11_net_34  h) (zp_i (zp_i (zp_k (zp_l (fun y7 => zp_d (fun a8 => zp_lI h rfl (fun z9 h1 => zp_k (zp_l (fun y11 => zp_d (fun a12 => zp_lI h1 rfl (fun z13 h2 => zp_lI h2 rfl (fun z14 h3 => zp_c (pX11_changeWorld  h3) (fun _ z16 h4 => zp_s h4))))))))))) (zp_s h)) (pX11_net_34  h))) (pX11_net_13  h))
theorem pX11_cost_20 {z0 z : St} {N : Nat} (h : zEq zRfP z0 z) : zPr zRfP z0 (fX11_cost_20 N z) := by
  unfold fX11_cost_20
  exact zp_s h
theorem pX11_cost_65 {z0 z : St} {N : Nat} (h : zEq zRfP z0 z) : zPr zRfP z0 (fX11_cost_65 N z) := by
  unfold fX11_cost_65
  exact zp_s h
theorem pX11_cost {z0 z : St} {N : Nat} {x0 : Nat} {x1 : Int32} {x2 : Int32} {x3 : Int32} (h : zEq zRfP z0 z) : zPr zRfP z0 (fX11_cost N x0 x1 x2 x3 z) := by
  unfold fX11_cost
  exact zp_c (pX11_routerOf  h) (fun r1 z2 h1 => zp_o (pX11_cost_20  h1) (fun a6 => zp_c (pX11_netOf  h1) (fun r7 z8 h2 => zp_o (pX11_cost_20  h2) (fun a12 => zp_c (pX1_portOn  h2) (fun r13 z14 h3 => zp_o (zp_s h3) (fun a18 => zp_i (pX11_cost_65  h3) (zp_i (zp_l (fun v21 => zp_i (zp_s h3) (zp_lI h3 rfl (fun z23 h4 => zp_c (pX11_changeWorld  h4) (fun _ z25 h5 => zp_s h5))))) (pX11_cost_65  h3))))))))
theorem pX11_link_44 {z0 z : St} {N : Nat} {x0 : Nat} (h : zEq zRfP z0 z) : zPr zRfP z0 (fX11_link_44 N x0 z) := by
  unfold fX11_link_44
  exact zp_c (pX11_changeWorld  h) (fun _ z2 h1 => zp_s h1)
theorem pX11_link {z0 z : St} {N : Nat} {x0 : Nat} {x1 : Int32} {x2 : Int32} (h : zEq zRfP z0 z) : zPr zRfP z0 (fX11_link N x0 x1 x2 z) := by
  unfold fX11_link
  exact zp_c (pX11_netOf  h) (fun r1 z2 h1 => zp_o (zp_s h1) (fun a6 => zp_i (zp_q (zp_lI h1 rfl (fun z8 h2 => zp_i (pX11_link_44  h2) (zp_c (pX11_loseAllOn  h2) (fun _ z12 h3 => pX11_link_44  h3))))) (zp_s h1)))
theorem pX11_fates_35 {z0 z : St} {N : Nat} (h : zEq zRfP z0 z) : zPr zRfP z0 (fX11_fates_35 N z) := by
  unfold fX11_fates_35
  exact zp_s h
theorem pX11_fates_71b {z0 z : St} {N : Nat} {K71 : Int64 → Int32 → Nat → Int32 → St → Option ((Int32 ⊕ Nat) × St)} {x2 : Int64} {x4 : Int32} {x5 : Nat} {x6 : Int32} (hK71 : ∀ a0 a1 a2 a3 a4, zEq zRfP z0 a4 → zPr zRfP z0 (K71 a0 a1 a2 a3 a4)) (h : zEq zRfP z0 z) : zPr zRfP z0 (fX11_fates_71b N K71 x2 x4 x5 x6 z) := by
  unfold fX11_fates_71b
  exact zp_i (zp_s h) (zp_c (pX5_addFate  h) (fun _ z3 h1 => zp_l (fun v6 => hK71 _ _ _ _ _ h1)))
theorem pX11_fates_71 {z0 : St} {N : Nat} : ∀ (n : Nat) (y0 : Int64) (y1 : Int32) (y2 : Nat) (y3 : Int32) (z : St), zEq zRfP z0 z → zPr zRfP z0 (fX11_fates_71 N n y0 y1 y2 y3 z) := by
  intro n
  induction n with
  | zero => intro y0 y1 y2 y3 z h; exact zp_n
  | succ n ih => intro y0 y1 y2 y3 z h; exact pX11_fates_71b  (fun _ _ _ _ _ h => ih _ _ _ _ _ h) h
theorem pX11_fates {z0 z : St} {N : Nat} {x0 : Nat} {x1 : Int32} {x2 : Int64} {x4 : Int32} (h : zEq zRfP z0 z) : zPr zRfP z0 (fX11_fates N x0 x1 x2 x4 z) := by
  unfold fX11_fates
  exact zp_c (pX11_netOf  h) (fun r1 z2 h1 => zp_o (zp_s h1) (fun a6 => zp_i (pX11_fates_35  h1) (zp_i (zp_i (pX11_fates_71  _ _ _ _ _ _ h1) (zp_s h1)) (pX11_fates_35  h1))))
theorem pX11_run_12 {z0 z : St} {N : Nat} (h : zEq zRfP z0 z) : zPr zRfP z0 (fX11_run_12 N z) := by
  unfold fX11_run_12
  exact zp_s h
theorem pX11_run_117 {z0 z : St} {N : Nat} {K45 : Nat → Int32 → Int32 → St → Option ((Int32 ⊕ Nat) × St)} {K66 : Nat → Int32 → Int32 → Int32 → St → Option ((Int32 ⊕ Nat) × St)} {x0 : Nat} {x1 : Int32} {x2 : Int32} {x3 : Int32} (hK45 : ∀ a0 a1 a2 a3, zEq zRfP z0 a3 → zPr zRfP z0 (K45 a0 a1 a2 a3)) (hK66 : ∀ a0 a1 a2 a3 a4, zEq zRfP z0 a4 → zPr zRfP z0 (K66 a0 a1 a2 a3 a4)) (h : zEq zRfP z0 z) : zPr zRfP z0 (fX11_run_117 N K45 K66 x0 x1 x2 x3 z) := by
  unfold fX11_run_117
  exact zp_l (fun v1 => hK66 _ _ _ _ _ h)
theorem pX11_run_66b {z0 z : St} {N : Nat} {K45 : Nat → Int32 → Int32 → St → Option ((Int32 ⊕ Nat) × St)} {K66 : Nat → Int32 → Int32 → Int32 → St → Option ((Int32 ⊕ Nat) × St)} {x0 : Nat} {x1 : Int32} {x2 : Int32} {x3 : Int32} (hK45 : ∀ a0 a1 a2 a3, zEq zRfP z0 a3 → zPr zRfP z0 (K45 a0 a1 a2 a3)) (hK66 : ∀ a0 a1 a2 a3 a4, zEq zRfP z0 a4 → zPr zRfP z0 (K66 a0 a1 a2 a3 a4)) (h : zEq zRfP z0 z) : zPr zRfP z0 (fX11_run_66b N K45 K66 x0 x1 x2 x3 z) := by
  unfold fX11_run_66b
  exact zp_i (zp_l (fun v2 => hK45 _ _ _ _ h)) (zp_k (zp_l (fun y4 => zp_d (fun a5 => zp_c (pX11_doAskings  h) (fun _ z7 h1 => zp_c (pX11_givePartialUp  h1) (fun _ z11 h2 => zp_i (zp_c (pX11_doHost  h2) (fun _ z16 h3 => pX11_run_117 hK45 hK66 h3)) (zp_c (pX11_doRouter  h2) (fun _ z20 h4 => pX11_run_117 hK45 hK66 h4))))))))
theorem pX11_run_66 {z0 : St} {N : Nat} {K45 : Nat → Int32 → Int32 → St → Option ((Int32 ⊕ Nat) × St)} (hK45 : ∀ a0 a1 a2 a3, zEq zRfP z0 a3 → zPr zRfP z0 (K45 a0 a1 a2 a3)) : ∀ (n : Nat) (y0 : Nat) (y1 : Int32) (y2 : Int32) (y3 : Int32) (z : St), zEq zRfP z0 z → zPr zRfP z0 (fX11_run_66 N K45 n y0 y1 y2 y3 z) := by
  intro n
  induction n with
  | zero => intro y0 y1 y2 y3 z h; exact zp_n
  | succ n ih => intro y0 y1 y2 y3 z h; exact pX11_run_66b hK45 (fun _ _ _ _ _ h => ih _ _ _ _ _ h) h
theorem pX11_run_45b {z0 z : St} {N : Nat} {K45 : Nat → Int32 → Int32 → St → Option ((Int32 ⊕ Nat) × St)} {x0 : Nat} {x1 : Int32} {x2 : Int32} (hK45 : ∀ a0 a1 a2 a3, zEq zRfP z0 a3 → zPr zRfP z0 (K45 a0 a1 a2 a3)) (h : zEq zRfP z0 z) : zPr zRfP z0 (fX11_run_45b N K45 x0 x1 x2 z) := by
  unfold fX11_run_45b
  exact zp_i (zp_s h) (zp_lI h rfl (fun z2 h1 => zp_c (pX11_letArrive  h1) (fun _ z4 h2 => pX11_run_66 hK45 _ _ _ _ _ _ h2)))
theorem pX11_run_45 {z0 : St} {N : Nat} : ∀ (n : Nat) (y0 : Nat) (y1 : Int32) (y2 : Int32) (z : St), zEq zRfP z0 z → zPr zRfP z0 (fX11_run_45 N n y0 y1 y2 z) := by
  intro n
  induction n with
  | zero => intro y0 y1 y2 z h; exact zp_n
  | succ n ih => intro y0 y1 y2 z h; exact pX11_run_45b  (fun _ _ _ _ h => ih _ _ _ _ h) h
theorem pX11_run {z0 z : St} {N : Nat} {x0 : Nat} {x1 : Int32} (h : zEq zRfP z0 z) : zPr zRfP z0 (fX11_run N x0 x1 z) := by
  unfold fX11_run
  exact zp_i (pX11_run_12  h) (zp_i (zp_i (pX11_run_45  _ _ _ _ _ h) (zp_s h)) (pX11_run_12  h))
theorem pX11_listen_33 {z0 z : St} {N : Nat} (h : zEq zRfP z0 z) : zPr zRfP z0 (fX11_listen_33 N z) := by
  unfold fX11_listen_33
  exact zp_s h
theorem pX11_listen_53 {z0 z : St} {N : Nat} (h : zEq zRfP z0 z) : zPr zRfP z0 (fX11_listen_53 N z) := by
  unfold fX11_listen_53
  exact zp_s h
theorem pX11_listen {z0 z : St} {N : Nat} {x0 : Nat} {x1 : Int32} {x2 : Int32} {x3 : Int32} (h : zEq zRfP z0 z) : zPr zRfP z0 (fX11_listen N x0 x1 x2 x3 z) := by
  unfold fX11_listen
  exact zp_c (pX11_hostOf  h) (fun r1 z2 h1 => zp_o (zp_s h1) (fun a6 => zp_i (pX11_listen_33  h1) (zp_i (zp_i (pX11_listen_53  h1) (zp_i (zp_c (pX1_unusedDoor  h1) (fun r11 z12 h2 => zp_i (zp_c (pX1_listenerAt  h2) (fun r16 z17 h3 => zp_i (zp_k (zp_l (fun y22 => zp_d (fun a23 => zp_c (pX2_startListening  h3) (fun _ z25 h4 => zp_c (pX11_stir  h4) (fun _ z29 h5 => zp_s h5)))))) (zp_s h3))) (zp_s h2))) (pX11_listen_53  h1))) (pX11_listen_33  h1))))
theorem pX11_open_33 {z0 z : St} {N : Nat} (h : zEq zRfP z0 z) : zPr zRfP z0 (fX11_open_33 N z) := by
  unfold fX11_open_33
  exact zp_s h
theorem pX11_open {z0 z : St} {N : Nat} {x0 : Nat} {x1 : Int32} {x2 : Int32} {x3 : Int32} (h : zEq zRfP z0 z) : zPr zRfP z0 (fX11_open N x0 x1 x2 x3 z) := by
  unfold fX11_open
  exact zp_c (pX11_hostOf  h) (fun r1 z2 h1 => zp_o (zp_s h1) (fun a6 => zp_i (pX11_open_33  h1) (zp_i (zp_c (pX1_hasAddress  h1) (fun r9 z10 h2 => zp_i (zp_c (pX1_unusedDoor  h2) (fun r14 z15 h3 => zp_i (zp_k (zp_l (fun y20 => zp_o (zp_s h3) (fun a22 => zp_i (zp_k (zp_l (fun y25 => zp_d (fun a26 => zp_c (pX2_giveEnd  h3) (fun _ z28 h4 => zp_lI h4 rfl (fun z31 h5 => zp_lI h5 rfl (fun z32 h6 => zp_l (fun y33 => zp_c (pX11_firstNumber  h6) (fun r34 z35 h7 => zp_l (fun y38 => zp_d (fun a39 => zp_d (fun a40 => zp_c (pX3_begin  h7) (fun _ z42 h8 => zp_l (fun y45 => zp_d (fun a46 => zp_c (pX3_startAsking  h8) (fun _ z48 h9 => zp_c (pX11_stir  h9) (fun _ z52 h10 => zp_s h10))))))))))))))))) (zp_s h3))))) (zp_s h3))) (zp_s h2))) (pX11_open_33  h1))))
theorem pX11_accept_23 {z0 z : St} {N : Nat} (h : zEq zRfP z0 z) : zPr zRfP z0 (fX11_accept_23 N z) := by
  unfold fX11_accept_23
  exact zp_s h
theorem pX11_accept_139 {z0 z : St} {N : Nat} {K57 : Int32 → Nat → Int32 → St → Option ((Int32 ⊕ Nat) × St)} {x2 : Int32} {x3 : Nat} {x5 : Int32} (hK57 : ∀ a0 a1 a2 a3, zEq zRfP z0 a3 → zPr zRfP z0 (K57 a0 a1 a2 a3)) (h : zEq zRfP z0 z) : zPr zRfP z0 (fX11_accept_139 N K57 x2 x3 x5 z) := by
  unfold fX11_accept_139
  exact zp_l (fun v1 => hK57 _ _ _ _ h)
theorem pX11_accept_57b {z0 z : St} {N : Nat} {K57 : Int32 → Nat → Int32 → St → Option ((Int32 ⊕ Nat) × St)} {x2 : Int32} {x3 : Nat} {x5 : Int32} (hK57 : ∀ a0 a1 a2 a3, zEq zRfP z0 a3 → zPr zRfP z0 (K57 a0 a1 a2 a3)) (h : zEq zRfP z0 z) : zPr zRfP z0 (fX11_accept_57b N K57 x2 x3 x5 z) := by
  unfold fX11_accept_57b
  exact zp_i (zp_s h) (zp_k (zp_l (fun y3 => zp_d (fun a4 => zp_i (pX11_accept_139 hK57 h) (zp_i (pX11_accept_139 hK57 h) (zp_i (zp_l (fun y8 => zp_d (fun a9 => zp_i (pX11_accept_139 hK57 h) (zp_l (fun y11 => zp_d (fun a12 => zp_i (zp_lI h rfl (fun z14 h1 => zp_s h1)) (pX11_accept_139 hK57 h))))))) (pX11_accept_139 hK57 h)))))))
theorem pX11_accept_57 {z0 : St} {N : Nat} : ∀ (n : Nat) (y0 : Int32) (y1 : Nat) (y2 : Int32) (z : St), zEq zRfP z0 z → zPr zRfP z0 (fX11_accept_57 N n y0 y1 y2 z) := by
  intro n
  induction n with
  | zero => intro y0 y1 y2 z h; exact zp_n
  | succ n ih => intro y0 y1 y2 z h; exact pX11_accept_57b  (fun _ _ _ _ h => ih _ _ _ _ h) h
theorem pX11_accept {z0 z : St} {N : Nat} {x0 : Nat} {x1 : Int32} {x2 : Int32} (h : zEq zRfP z0 z) : zPr zRfP z0 (fX11_accept N x0 x1 x2 z) := by
  unfold fX11_accept
  exact zp_c (pX11_hostOf  h) (fun r1 z2 h1 => zp_c (pX11_doorOf  h1) (fun r5 z6 h2 => zp_o (pX11_accept_23  h2) (fun a10 => zp_o (pX11_accept_23  h2) (fun a12 => zp_i (pX11_accept_57  _ _ _ _ _ h2) (zp_s h2)))))
theorem pX11_write_37 {z0 z : St} {N : Nat} (h : zEq zRfP z0 z) : zPr zRfP z0 (fX11_write_37 N z) := by
  unfold fX11_write_37
  exact zp_s h
theorem pX11_write_92b {z0 z : St} {N : Nat} {K92 : Nat → Int64 → Int32 → Nat → Int32 → Int32 → St → Option ((Int32 ⊕ Nat) × St)} {x0 : Nat} {x3 : Int64} {x5 : Int32} {x6 : Nat} {x7 : Int32} {x8 : Int32} (hK92 : ∀ a0 a1 a2 a3 a4 a5 a6, zEq zRfP z0 a6 → zPr zRfP z0 (K92 a0 a1 a2 a3 a4 a5 a6)) (h : zEq zRfP z0 z) : zPr zRfP z0 (fX11_write_92b N K92 x0 x3 x5 x6 x7 x8 z) := by
  unfold fX11_write_92b
  exact zp_i (zp_l (fun y2 => zp_d (fun a3 => zp_c (pX11_noteWriting  h) (fun _ z5 h1 => zp_c (pX11_wroteTo  h1) (fun _ z9 h2 => zp_s h2))))) (zp_l (fun y12 => zp_d (fun a13 => zp_l (fun y14 => zp_d (fun a15 => zp_c (pX6_add  h) (fun _ z17 h3 => zp_l (fun v20 => hK92 _ _ _ _ _ _ _ h3)))))))
theorem pX11_write_92 {z0 : St} {N : Nat} : ∀ (n : Nat) (y0 : Nat) (y1 : Int64) (y2 : Int32) (y3 : Nat) (y4 : Int32) (y5 : Int32) (z : St), zEq zRfP z0 z → zPr zRfP z0 (fX11_write_92 N n y0 y1 y2 y3 y4 y5 z) := by
  intro n
  induction n with
  | zero => intro y0 y1 y2 y3 y4 y5 z h; exact zp_n
  | succ n ih => intro y0 y1 y2 y3 y4 y5 z h; exact pX11_write_92b  (fun _ _ _ _ _ _ _ h => ih _ _ _ _ _ _ _ h) h
theorem pX11_write {z0 z : St} {N : Nat} {x0 : Nat} {x1 : Int32} {x2 : Int32} {x3 : Int64} {x5 : Int32} (h : zEq zRfP z0 z) : zPr zRfP z0 (fX11_write N x0 x1 x2 x3 x5 z) := by
  unfold fX11_write
  exact zp_c (pX11_doorOf  h) (fun r1 z2 h1 => zp_o (zp_s h1) (fun a6 => zp_i (pX11_write_37  h1) (zp_i (zp_c (pX2_takesBytes  h1) (fun r9 z10 h2 => zp_i (zp_l (fun y14 => zp_d (fun a15 => zp_l (fun y16 => zp_d (fun a17 => zp_l (fun v18 => pX11_write_92  _ _ _ _ _ _ _ _ h2)))))) (zp_s h2))) (pX11_write_37  h1))))
theorem pX11_fill_38 {z0 z : St} {N : Nat} (h : zEq zRfP z0 z) : zPr zRfP z0 (fX11_fill_38 N z) := by
  unfold fX11_fill_38
  exact zp_s h
theorem pX11_fill_93b {z0 z : St} {N : Nat} {K93 : Nat → Int32 → Int32 → Nat → Int32 → Int32 → St → Option ((Int32 ⊕ Nat) × St)} {x0 : Nat} {x3 : Int32} {x4 : Int32} {x6 : Nat} {x7 : Int32} {x8 : Int32} (hK93 : ∀ a0 a1 a2 a3 a4 a5 a6, zEq zRfP z0 a6 → zPr zRfP z0 (K93 a0 a1 a2 a3 a4 a5 a6)) (h : zEq zRfP z0 z) : zPr zRfP z0 (fX11_fill_93b N K93 x0 x3 x4 x6 x7 x8 z) := by
  unfold fX11_fill_93b
  exact zp_i (zp_l (fun y2 => zp_d (fun a3 => zp_c (pX11_noteWriting  h) (fun _ z5 h1 => zp_c (pX11_wroteTo  h1) (fun _ z9 h2 => zp_s h2))))) (zp_l (fun y12 => zp_d (fun a13 => zp_l (fun y14 => zp_d (fun a15 => zp_c (pX6_add  h) (fun _ z17 h3 => zp_l (fun v20 => hK93 _ _ _ _ _ _ _ h3)))))))
theorem pX11_fill_93 {z0 : St} {N : Nat} : ∀ (n : Nat) (y0 : Nat) (y1 : Int32) (y2 : Int32) (y3 : Nat) (y4 : Int32) (y5 : Int32) (z : St), zEq zRfP z0 z → zPr zRfP z0 (fX11_fill_93 N n y0 y1 y2 y3 y4 y5 z) := by
  intro n
  induction n with
  | zero => intro y0 y1 y2 y3 y4 y5 z h; exact zp_n
  | succ n ih => intro y0 y1 y2 y3 y4 y5 z h; exact pX11_fill_93b  (fun _ _ _ _ _ _ _ h => ih _ _ _ _ _ _ _ h) h
theorem pX11_fill {z0 z : St} {N : Nat} {x0 : Nat} {x1 : Int32} {x2 : Int32} {x3 : Int32} {x4 : Int32} {x5 : Int32} (h : zEq zRfP z0 z) : zPr zRfP z0 (fX11_fill N x0 x1 x2 x3 x4 x5 z) := by
  unfold fX11_fill
  exact zp_c (pX11_doorOf  h) (fun r1 z2 h1 => zp_o (zp_s h1) (fun a6 => zp_i (pX11_fill_38  h1) (zp_i (zp_c (pX2_takesBytes  h1) (fun r9 z10 h2 => zp_i (zp_l (fun y14 => zp_d (fun a15 => zp_l (fun y16 => zp_d (fun a17 => zp_l (fun v18 => pX11_fill_93  _ _ _ _ _ _ _ _ h2)))))) (zp_s h2))) (pX11_fill_38  h1))))
theorem pX11_readableDoor_86 {z0 z : St} {N : Nat} (h : zEq zRfP z0 z) : zPr zRfP z0 (fX11_readableDoor_86 N z) := by
  unfold fX11_readableDoor_86
  exact zp_s h
theorem pX11_readableDoor {z0 z : St} {N : Nat} {x0 : Nat} {x1 : Int32} {x2 : Int32} (h : zEq zRfP z0 z) : zPr zRfP z0 (fX11_readableDoor N x0 x1 x2 z) := by
  unfold fX11_readableDoor
  exact zp_c (pX11_doorOf  h) (fun r1 z2 h1 => zp_o (zp_s h1) (fun a6 => zp_i (zp_l (fun y8 => zp_d (fun a9 => zp_l (fun y10 => zp_d (fun a11 => zp_i (zp_s h1) (zp_l (fun y13 => zp_d (fun a14 => zp_i (zp_s h1) (zp_c (pX3_isDead  h1) (fun r16 z17 h2 => zp_i (pX11_readableDoor_86  h2) (zp_i (zp_s h2) (pX11_readableDoor_86  h2)))))))))))) (zp_s h1)))
theorem pX11_read {z0 z : St} {N : Nat} {x0 : Nat} {x1 : Int32} {x2 : Int32} (h : zEq zRfP z0 z) : zPr zRfP z0 (fX11_read N x0 x1 x2 z) := by
  unfold fX11_read
  exact zp_cx (pX11_readableDoor  h) (fun r1 z2 h1 => zp_d (fun a5 => zp_l (fun y6 => zp_d (fun a7 => zp_l (fun y8 => zp_d (fun a9 => zp_i (zp_c (pX11_takeByte  h1) (fun r11 z12 h2 => zp_s h2)) (zp_l (fun y15 => zp_d (fun a16 => zp_l (fun y17 => zp_d (fun a18 => zp_i (zp_s h1) (zp_s h1))))))))))))
theorem pX11_readAll_32 {z0 z : St} {N : Nat} (h : zEq zRfP z0 z) : zPr zRfP z0 (fX11_readAll_32 N z) := by
  unfold fX11_readAll_32
  exact zp_s h
theorem pX11_readAll_57b {z0 z : St} {N : Nat} {K57 : Nat → Int32 → Option Nat → Int32 → Int32 → St → Option ((Int32 ⊕ Nat) × St)} {x0 : Nat} {x3 : Int32} {x4 : Option Nat} {x5 : Int32} {x6 : Int32} (hK57 : ∀ a0 a1 a2 a3 a4 a5, zEq zRfP z0 a5 → zPr zRfP z0 (K57 a0 a1 a2 a3 a4 a5)) (h : zEq zRfP z0 z) : zPr zRfP z0 (fX11_readAll_57b N K57 x0 x3 x4 x5 x6 z) := by
  unfold fX11_readAll_57b
  exact zp_i (zp_s h) (zp_d (fun a2 => zp_l (fun y3 => zp_d (fun a4 => zp_l (fun y5 => zp_d (fun a6 => zp_i (zp_s h) (zp_c (pX11_takeByte  h) (fun r8 z9 h1 => zp_l (fun v12 => zp_l (fun v13 => hK57 _ _ _ _ _ _ h1))))))))))
theorem pX11_readAll_57 {z0 : St} {N : Nat} : ∀ (n : Nat) (y0 : Nat) (y1 : Int32) (y2 : Option Nat) (y3 : Int32) (y4 : Int32) (z : St), zEq zRfP z0 z → zPr zRfP z0 (fX11_readAll_57 N n y0 y1 y2 y3 y4 z) := by
  intro n
  induction n with
  | zero => intro y0 y1 y2 y3 y4 z h; exact zp_n
  | succ n ih => intro y0 y1 y2 y3 y4 z h; exact pX11_readAll_57b  (fun _ _ _ _ _ _ h => ih _ _ _ _ _ _ h) h
theorem pX11_readAll {z0 z : St} {N : Nat} {x0 : Nat} {x1 : Int32} {x2 : Int32} {x3 : Int32} (h : zEq zRfP z0 z) : zPr zRfP z0 (fX11_readAll N x0 x1 x2 x3 z) := by
  unfold fX11_readAll
  exact zp_c (pX11_doorOf  h) (fun r1 z2 h1 => zp_o (zp_s h1) (fun a6 => zp_i (pX11_readAll_32  h1) (zp_i (zp_cx (pX11_readableDoor  h1) (fun r9 z10 h2 => pX11_readAll_57  _ _ _ _ _ _ _ h2)) (pX11_readAll_32  h1))))
theorem pX11_close_23 {z0 z : St} {N : Nat} (h : zEq zRfP z0 z) : zPr zRfP z0 (fX11_close_23 N z) := by
  unfold fX11_close_23
  exact zp_s h
theorem pX11_close_140 {z0 z : St} {N : Nat} {x0 : Nat} (h : zEq zRfP z0 z) : zPr zRfP z0 (fX11_close_140 N x0 z) := by
  unfold fX11_close_140
  exact zp_c (pX11_stir  h) (fun _ z2 h1 => zp_s h1)
theorem pX11_close {z0 z : St} {N : Nat} {x0 : Nat} {x1 : Int32} {x2 : Int32} (h : zEq zRfP z0 z) : zPr zRfP z0 (fX11_close N x0 x1 x2 z) := by
  unfold fX11_close
  exact zp_c (pX11_hostOf  h) (fun r1 z2 h1 => zp_c (pX11_doorOf  h1) (fun r5 z6 h2 => zp_o (pX11_close_23  h2) (fun a10 => zp_o (pX11_close_23  h2) (fun a12 => zp_i (zp_i (zp_l (fun y15 => zp_d (fun a16 => zp_c (pX3_isDead  h2) (fun r17 z18 h3 => zp_i (zp_l (fun y22 => zp_d (fun a23 => zp_l (fun y24 => zp_d (fun a25 => zp_i (zp_l (fun y27 => zp_d (fun a28 => zp_c (pX3_closeByOwner  h3) (fun _ z30 h4 => zp_l (fun y33 => zp_d (fun a34 => zp_c (pX3_armProbe  h4) (fun _ z36 h5 => pX11_close_140  h5))))))) (zp_s h3)))))) (zp_c (pX2_setUnused  h3) (fun _ z40 h6 => pX11_close_140  h6)))))) (zp_c (pX11_abandonThrough  h2) (fun _ z44 h7 => zp_c (pX2_setUnused  h7) (fun _ z48 h8 => pX11_close_140  h8)))) (zp_s h2)))))
theorem pX11_abort {z0 z : St} {N : Nat} {x0 : Nat} {x1 : Int32} {x2 : Int32} (h : zEq zRfP z0 z) : zPr zRfP z0 (fX11_abort N x0 x1 x2 z) := by
  unfold fX11_abort
  exact zp_c (pX11_doorOf  h) (fun r1 z2 h1 => zp_o (zp_s h1) (fun a6 => zp_i (zp_l (fun y8 => zp_d (fun a9 => zp_c (pX3_isDead  h1) (fun r10 z11 h2 => zp_i (zp_l (fun y15 => zp_d (fun a16 => zp_c (pX3_abortByOwner  h2) (fun _ z18 h3 => zp_c (pX11_stir  h3) (fun _ z22 h4 => zp_s h4))))) (zp_s h2))))) (zp_s h1)))
theorem pX11_door_34 {z0 z : St} {N : Nat} (h : zEq zRfP z0 z) : zPr zRfP z0 (fX11_door_34 N z) := by
  unfold fX11_door_34
  exact zp_s h
theorem pX11_door_59 {z0 z : St} {N : Nat} {x3 : Int32} {x4 : Nat} {s0 : Int32} (h : zEq zRfP z0 z) : zPr zRfP z0 (fX11_door_59 N x3 x4 s0 z) := by
  unfold fX11_door_59
  exact zp_i (zp_i (zp_i (zp_s h) (zp_s h)) (zp_l (fun y4 => zp_d (fun a5 => zp_s h)))) (zp_i (zp_s h) (zp_i (zp_s h) (zp_i (zp_s h) (zp_i (zp_i (zp_s h) (zp_l (fun y11 => zp_d (fun a12 => zp_l (fun y13 => zp_d (fun a14 => zp_s h)))))) (zp_i (zp_c (pX2_takesBytes  h) (fun r16 z17 h1 => zp_i (zp_s h1) (zp_l (fun y21 => zp_d (fun a22 => zp_l (fun y23 => zp_d (fun a24 => zp_s h1))))))) (zp_i (zp_s h) (zp_l (fun y26 => zp_d (fun a27 => zp_l (fun y28 => zp_d (fun a29 => zp_s h)))))))))))
theorem pX11_door {z0 z : St} {N : Nat} {x0 : Nat} {x1 : Int32} {x2 : Int32} {x3 : Int32} (h : zEq zRfP z0 z) : zPr zRfP z0 (fX11_door N x0 x1 x2 x3 z) := by
  unfold fX11_door
  exact zp_c (pX11_doorOf  h) (fun r1 z2 h1 => zp_o (zp_s h1) (fun a6 => zp_i (pX11_door_34  h1) (zp_i (zp_i (pX11_door_59  h1) (pX11_door_59  h1)) (pX11_door_34  h1))))
theorem pX11_drain {z0 z : St} {N : Nat} {x0 : Nat} {x1 : Int32} {x2 : Int32} {x3 : Int32} (h : zEq zRfP z0 z) : zPr zRfP z0 (fX11_drain N x0 x1 x2 x3 z) := by
  unfold fX11_drain
  exact zp_c (pX11_doorOf  h) (fun r1 z2 h1 => zp_o (zp_s h1) (fun a6 => zp_i (zp_q (zp_lI h1 rfl (fun z8 h2 => zp_s h2))) (zp_s h1)))
theorem pX11_drained {z0 z : St} {N : Nat} {x0 : Nat} {x1 : Int32} {x2 : Int32} (h : zEq zRfP z0 z) : zPr zRfP z0 (fX11_drained N x0 x1 x2 z) := by
  unfold fX11_drained
  exact zp_c (pX11_doorOf  h) (fun r1 z2 h1 => zp_o (zp_s h1) (fun a6 => zp_s h1))
theorem pX11_way_20 {z0 z : St} {N : Nat} (h : zEq zRfP z0 z) : zPr zRfP z0 (fX11_way_20 N z) := by
  unfold fX11_way_20
  exact zp_s h
theorem pX11_way_39 {z0 z : St} {N : Nat} (h : zEq zRfP z0 z) : zPr zRfP z0 (fX11_way_39 N z) := by
  unfold fX11_way_39
  exact zp_s h
theorem pX11_way {z0 z : St} {N : Nat} {x0 : Nat} {x1 : Int32} {x2 : Int32} {x3 : Int32} (h : zEq zRfP z0 z) : zPr zRfP z0 (fX11_way N x0 x1 x2 x3 z) := by
  unfold fX11_way
  exact zp_c (pX11_routerOf  h) (fun r1 z2 h1 => zp_o (pX11_way_20  h1) (fun a6 => zp_c (pX11_netOf  h1) (fun r7 z8 h2 => zp_o (pX11_way_20  h2) (fun a12 => zp_i (pX11_way_39  h2) (zp_i (zp_l (fun y15 => zp_d (fun a16 => zp_l (fun y17 => zp_i (zp_i (zp_d (fun a20 => zp_k (zp_s h2))) (zp_d (fun a22 => zp_k (zp_s h2)))) (zp_d (fun a24 => zp_k (zp_s h2))))))) (pX11_way_39  h2))))))
theorem pX11_friends_20 {z0 z : St} {N : Nat} (h : zEq zRfP z0 z) : zPr zRfP z0 (fX11_friends_20 N z) := by
  unfold fX11_friends_20
  exact zp_s h
theorem pX11_friends {z0 z : St} {N : Nat} {x0 : Nat} {x1 : Int32} {x2 : Int32} {x3 : Int32} (h : zEq zRfP z0 z) : zPr zRfP z0 (fX11_friends N x0 x1 x2 x3 z) := by
  unfold fX11_friends
  exact zp_c (pX11_routerOf  h) (fun r1 z2 h1 => zp_o (pX11_friends_20  h1) (fun a6 => zp_c (pX11_routerOf  h1) (fun r7 z8 h2 => zp_o (pX11_friends_20  h2) (fun a12 => zp_c (pX11_netOf  h2) (fun r13 z14 h3 => zp_o (zp_s h3) (fun a18 => zp_c (pX1_portOn  h3) (fun r19 z20 h4 => zp_o (zp_s h4) (fun a24 => zp_l (fun y25 => zp_d (fun a26 => zp_c (pX11_keyOf  h4) (fun r27 z28 h5 => zp_k (zp_i (zp_s h5) (zp_s h5)))))))))))))
theorem pX11_advert_18 {z0 z : St} {N : Nat} (h : zEq zRfP z0 z) : zPr zRfP z0 (fX11_advert_18 N z) := by
  unfold fX11_advert_18
  exact zp_s h
theorem pX11_advert {z0 z : St} {N : Nat} {x0 : Nat} {x1 : Int32} {x2 : Int32} (h : zEq zRfP z0 z) : zPr zRfP z0 (fX11_advert N x0 x1 x2 z) := by
  unfold fX11_advert
  exact zp_c (pX11_routerOf  h) (fun r1 z2 h1 => zp_o (pX11_advert_18  h1) (fun a6 => zp_c (pX11_routerOf  h1) (fun r7 z8 h2 => zp_o (pX11_advert_18  h2) (fun a12 => zp_l (fun y13 => zp_d (fun a14 => zp_l (fun y15 => zp_d (fun a16 => zp_k (zp_l (fun v18 => zp_i (zp_s h2) (zp_s h2)))))))))))
theorem pX11_count_10 {z0 z : St} {N : Nat} (h : zEq zRfP z0 z) : zPr zRfP z0 (fX11_count_10 N z) := by
  unfold fX11_count_10
  exact zp_s h
theorem pX11_count {z0 z : St} {N : Nat} {x0 : Nat} {x1 : Int32} {x2 : Int32} (h : zEq zRfP z0 z) : zPr zRfP z0 (fX11_count N x0 x1 x2 z) := by
  unfold fX11_count
  exact zp_i (pX11_count_10  h) (zp_i (zp_i (zp_c (pX11_boxOf  h) (fun r4 z5 h1 => zp_o (zp_s h1) (fun a9 => zp_k (zp_s h1)))) (zp_c (pX11_netOf  h) (fun r11 z12 h2 => zp_o (zp_s h2) (fun a16 => zp_i (zp_s h2) (zp_s h2))))) (pX11_count_10  h))
theorem pX11_shouldCost_22 {z0 z : St} {N : Nat} (h : zEq zRfP z0 z) : zPr zRfP z0 (fX11_shouldCost_22 N z) := by
  unfold fX11_shouldCost_22
  exact zp_s h
theorem pX11_shouldCost {z0 z : St} {N : Nat} {x0 : Nat} {x1 : Int32} {x2 : Int32} (h : zEq zRfP z0 z) : zPr zRfP z0 (fX11_shouldCost N x0 x1 x2 z) := by
  unfold fX11_shouldCost
  exact zp_c (pX11_routerOf  h) (fun r1 z2 h1 => zp_c (pX11_netOf  h1) (fun r5 z6 h2 => zp_o (pX11_shouldCost_22  h2) (fun a10 => zp_o (pX11_shouldCost_22  h2) (fun a12 => zp_c (pX11_costFromAbove  h2) (fun r13 z14 h3 => zp_s h3)))))
