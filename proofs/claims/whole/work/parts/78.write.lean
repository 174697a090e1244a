/-! what a function leaves as it was, field by field: M is a mask of what may be written -/
def zFr (M : Nat) (z z' : St) : Prop := (∀ k j o, k < 100 → M.testBit (64 * k + j) = false → zgI z' k j o = zgI z k j o ∧ zgR z' k j o = zgR z k j o) ∧ (∀ k o i, M.testBit (1180 + k) = false → zgA z' k o i = zgA z k o i ∧ zgL z' k o i = zgL z k o i ∧ zgQ z' k o i = zgQ z k o i)
def zPw (M : Nat) (z0 : St) {α : Type} (x : Option (α × St)) : Prop := ∀ r z', x = some (r, z') → zFr M z0 z'
theorem ztb {m M c : Nat} (h : m &&& M = m) (hc : m.testBit c = true) : M.testBit c = true := by
  rw [← h, Nat.testBit_and] at hc
  exact (Bool.and_eq_true_iff.mp hc).2
theorem ztr {a b M : Nat} (h1 : a &&& b = a) (h2 : b &&& M = b) : a &&& M = a := by
  rw [← h1, Nat.and_assoc, h2]
theorem zFr_rf (M : Nat) (z : St) : zFr M z z := ⟨fun _ _ _ _ _ => ⟨rfl, rfl⟩, fun _ _ _ _ => ⟨rfl, rfl, rfl⟩⟩
theorem zFr_tr {M : Nat} {a b c : St} (h1 : zFr M a b) (h2 : zFr M b c) : zFr M a c :=
  ⟨fun k j o hk hm => ⟨(h2.1 k j o hk hm).1.trans (h1.1 k j o hk hm).1, (h2.1 k j o hk hm).2.trans (h1.1 k j o hk hm).2⟩,
   fun k o i hm => ⟨(h2.2 k o i hm).1.trans (h1.2 k o i hm).1, (h2.2 k o i hm).2.1.trans (h1.2 k o i hm).2.1, (h2.2 k o i hm).2.2.trans (h1.2 k o i hm).2.2⟩⟩
theorem zFr_w {m M : Nat} {a b : St} (h : zFr m a b) (hm : m &&& M = m) : zFr M a b := by
  have t : ∀ c, M.testBit c = false → m.testBit c = false := fun c hc => by
    cases hx : m.testBit c with
    | false => rfl
    | true => rw [ztb hm hx] at hc; cases hc
  exact ⟨fun k j o hk hm => h.1 k j o hk (t _ hm), fun k o i hm => h.2 k o i (t _ hm)⟩
theorem zFr_gI {M : Nat} {z z' : St} (h : zFr M z z') {k j : Nat} (hk : k < 100) (hm : M.testBit (64 * k + j) = false) (o : Nat) : zgI z' k j o = zgI z k j o := (h.1 k j o hk hm).1
theorem zFr_gR {M : Nat} {z z' : St} (h : zFr M z z') {k j : Nat} (hk : k < 100) (hm : M.testBit (64 * k + j) = false) (o : Nat) : zgR z' k j o = zgR z k j o := (h.1 k j o hk hm).2
theorem zFr_gA {M : Nat} {z z' : St} (h : zFr M z z') {k : Nat} (hm : M.testBit (1180 + k) = false) (o i : Nat) : zgA z' k o i = zgA z k o i := (h.2 k o i hm).1
theorem zFr_gL {M : Nat} {z z' : St} (h : zFr M z z') {k : Nat} (hm : M.testBit (1180 + k) = false) (o i : Nat) : zgL z' k o i = zgL z k o i := (h.2 k o i hm).2.1
theorem zFr_gQ {M : Nat} {z z' : St} (h : zFr M z z') {k : Nat} (hm : M.testBit (1180 + k) = false) (o i : Nat) : zgQ z' k o i = zgQ z k o i := (h.2 k o i hm).2.2
section ZWR
variable {M : Nat} {z0 z : St} {α β : Type}
theorem zne3 {k j o k' j' o' : Nat} {f : Nat → Nat → Nat} (h1 : M.testBit (f k j) = true) (h2 : M.testBit (f k' j') = false) : ¬ (k' = k ∧ j' = j ∧ o' = o) := by
  rintro ⟨rfl, rfl, -⟩
  rw [h1] at h2; cases h2
theorem zFr_I {k j o : Nat} {v : Int32} (h : zFr M z0 z) (hk : M.testBit (64 * k + j) = true) : zFr M z0 (zsI z k j o v) := zFr_tr h ⟨fun k' j' o' _ hm => ⟨by rw [zgI_sI, if_neg (zne3 (f := fun a b => 64 * a + b) hk hm)], rfl⟩, fun _ _ _ _ => ⟨rfl, rfl, rfl⟩⟩
theorem zFr_R {k j o : Nat} {v : Option Nat} (h : zFr M z0 z) (hk : M.testBit (64 * k + j) = true) : zFr M z0 (zsR z k j o v) := zFr_tr h ⟨fun k' j' o' _ hm => ⟨rfl, by rw [zgR_sR, if_neg (zne3 (f := fun a b => 64 * a + b) hk hm)]⟩, fun _ _ _ _ => ⟨rfl, rfl, rfl⟩⟩
theorem zne2 {k o i k' o' i' : Nat} (h1 : M.testBit (1180 + k) = true) (h2 : M.testBit (1180 + k') = false) : ¬ (k' = k ∧ o' = o ∧ i' = i) := by
  rintro ⟨rfl, -, -⟩
  rw [h1] at h2; cases h2
theorem zFr_A {k o i : Nat} {v : Int32} (h : zFr M z0 z) (hk : M.testBit (1180 + k) = true) : zFr M z0 (zsA z k o i v) := zFr_tr h ⟨fun _ _ _ _ _ => ⟨rfl, rfl⟩, fun k' o' i' hm => ⟨by rw [zgA_sA, if_neg (zne2 hk hm)], rfl, rfl⟩⟩
theorem zFr_L {k o i : Nat} {v : Int64} (h : zFr M z0 z) (hk : M.testBit (1180 + k) = true) : zFr M z0 (zsL z k o i v) := zFr_tr h ⟨fun _ _ _ _ _ => ⟨rfl, rfl⟩, fun k' o' i' hm => ⟨rfl, by rw [zgL_sL, if_neg (zne2 hk hm)], rfl⟩⟩
theorem zFr_Q {k o i : Nat} {v : Option Nat} (h : zFr M z0 z) (hk : M.testBit (1180 + k) = true) : zFr M z0 (zsQ z k o i v) := zFr_tr h ⟨fun _ _ _ _ _ => ⟨rfl, rfl⟩, fun k' o' i' hm => ⟨rfl, rfl, by rw [zgQ_sQ, if_neg (zne2 hk hm)]⟩⟩
theorem zFr_C {k o : Nat} {g : Nat → Int32} (h : zFr M z0 z) (hk : M.testBit (1180 + k) = true) : zFr M z0 (zsC z k o g) := zFr_tr h ⟨fun _ _ _ _ _ => ⟨rfl, rfl⟩, fun k' o' i' hm => ⟨by
  show (if k' = k ∧ o' = o then g i' else zgA z k' o' i') = _
  rw [if_neg (fun x => by rw [x.1, hk] at hm; cases hm)], rfl, rfl⟩⟩
theorem zw_s {r : α} (h : zFr M z0 z) : zPw M z0 (some (r, z)) := fun r' z' e => by
  cases e
  exact h
theorem zw_n : zPw M z0 (none : Option (α × St)) := fun r z' e => by cases e
theorem zw_l {e : β} {k : β → Option (α × St)} (h : ∀ x, zPw M z0 (k x)) : zPw M z0 (zl e k) := h e
theorem zw_lI {k j o : Nat} {v : Int32} {K : St → Option (α × St)} (h : zFr M z0 z) (hk : M.testBit (64 * k + j) = true) (hh : ∀ z1, zFr M z0 z1 → zPw M z0 (K z1)) : zPw M z0 (zl (zsI z k j o v) K) := hh _ (zFr_I h hk)
theorem zw_lR {k j o : Nat} {v : Option Nat} {K : St → Option (α × St)} (h : zFr M z0 z) (hk : M.testBit (64 * k + j) = true) (hh : ∀ z1, zFr M z0 z1 → zPw M z0 (K z1)) : zPw M z0 (zl (zsR z k j o v) K) := hh _ (zFr_R h hk)
theorem zw_lA {k j o : Nat} {v : Int32} {K : St → Option (α × St)} (h : zFr M z0 z) (hk : M.testBit (1180 + k) = true) (hh : ∀ z1, zFr M z0 z1 → zPw M z0 (K z1)) : zPw M z0 (zl (zsA z k j o v) K) := hh _ (zFr_A h hk)
theorem zw_lL {k j o : Nat} {v : Int64} {K : St → Option (α × St)} (h : zFr M z0 z) (hk : M.testBit (1180 + k) = true) (hh : ∀ z1, zFr M z0 z1 → zPw M z0 (K z1)) : zPw M z0 (zl (zsL z k j o v) K) := hh _ (zFr_L h hk)
theorem zw_lQ {k j o : Nat} {v : Option Nat} {K : St → Option (α × St)} (h : zFr M z0 z) (hk : M.testBit (1180 + k) = true) (hh : ∀ z1, zFr M z0 z1 → zPw M z0 (K z1)) : zPw M z0 (zl (zsQ z k j o v) K) := hh _ (zFr_Q h hk)
theorem zw_lC {o0 o1 : Nat} {a b c : Int32} {K : St → Option (α × St)} (h : zFr M z0 z) (hk : M.testBit (1180 + 125) = true) (hh : ∀ z1, zFr M z0 z1 → zPw M z0 (K z1)) : zPw M z0 (zl (zcp z o0 o1 a b c) K) := hh _ (zFr_C h hk)
theorem zw_c {x : Option (β × St)} {K : β → St → Option (α × St)} (h : zPw M z0 x) (hh : ∀ r z1, zFr M z0 z1 → zPw M z0 (K r z1)) : zPw M z0 (zc x K) := fun r z' e => by
  obtain ⟨a, z1, e1, e2⟩ := zc_some e
  exact hh a z1 (h a z1 e1) r z' e2
theorem zw_cx {γ : Type} {x : Option ((β ⊕ Nat) × St)} {K : β → St → Option ((γ ⊕ Nat) × St)} (h : zPw M z0 x) (hh : ∀ r z1, zFr M z0 z1 → zPw M z0 (K r z1)) : zPw M z0 (zcx x K) := by
  intro r z' e
  match x, h, e with
  | some (.inl a, z1), h, e => exact hh a z1 (h _ z1 rfl) r z' e
  | some (.inr k, z1), h, e => cases e; exact h _ _ rfl
  | none, _, e => cases e
theorem zw_d {x : Option β} {K : β → Option (α × St)} (hh : ∀ a, zPw M z0 (K a)) : zPw M z0 (zd x K) := by
  cases x with
  | none => exact zw_n
  | some a => exact hh a
theorem zw_o {x : Option β} {a : Option (α × St)} {K : β → Option (α × St)} (h : zPw M z0 a) (hh : ∀ i, zPw M z0 (K i)) : zPw M z0 (zo x a K) := by
  cases x with
  | none => exact h
  | some a => exact hh a
theorem zw_k {i : Int32} {n : Nat} {k : Option (α × St)} (h : zPw M z0 k) : zPw M z0 (zk i n k) := by
  unfold zk
  split
  · exact zw_n
  · exact h
theorem zw_q {c : Prop} [dc : Decidable c] {k : Option (α × St)} (h : zPw M z0 k) : zPw M z0 (zq c k) := by
  unfold zq
  split
  · exact h
  · exact zw_n
theorem zw_i {c : Prop} [dc : Decidable c] {a b : Option (α × St)} (ha : zPw M z0 a) (hb : zPw M z0 b) : zPw M z0 (if c then a else b) := by
  split
  · exact ha
  · exact hb
end ZWR
def mX0_friendOf : Nat := 0x0
theorem wX0_friendOf {M : Nat} {N : Nat} {x0 : Int32} {z0 z : St} (hM : mX0_friendOf &&& M = mX0_friendOf)  (h : zFr M z0 z) : zPw M z0 (fX0_friendOf N x0 z) := by
  unfold fX0_friendOf
  exact zw_s h
def mX0_netOfEntry : Nat := 0x0
theorem wX0_netOfEntry {M : Nat} {N : Nat} {x0 : Int32} {z0 z : St} (hM : mX0_netOfEntry &&& M = mX0_netOfEntry)  (h : zFr M z0 z) : zPw M z0 (fX0_netOfEntry N x0 z) := by
  unfold fX0_netOfEntry
  exact zw_s h
def mX0_tollOf : Nat := 0x0
theorem wX0_tollOf {M : Nat} {N : Nat} {x0 : Int32} {z0 z : St} (hM : mX0_tollOf &&& M = mX0_tollOf)  (h : zFr M z0 z) : zPw M z0 (fX0_tollOf N x0 z) := by
  unfold fX0_tollOf
  exact zw_s h
def mX0_addToDraft : Nat := 0x2000000000000000000000000000000000000000000000000000000000000000000000000000000000000000000000000000000000000000000000000000000000000000000000000000000000000000000000000000000000000000000000000000000000000000000000000000000000000000000000000000000000000000000000000000000000000000000000000000000000000000000000000000000040
theorem wX0_addToDraft {M : Nat} {N : Nat} {x0 : Nat} {x1 : Int32} {x2 : Int32} {x3 : Int32} {z0 z : St} (hM : mX0_addToDraft &&& M = mX0_addToDraft)  (h : zFr M z0 z) : zPw M z0 (fX0_addToDraft N x0 x1 x2 x3 z) := by
  unfold fX0_addToDraft
  exact zw_i (zw_k (zw_lA h (ztb hM rfl) (fun z3 h1 => zw_lI h1 (ztb hM rfl) (fun z4 h2 => zw_s h2)))) (zw_s h)
def mX0_tellsDraft_17b : Nat := 0x0
theorem wX0_tellsDraft_17b {M : Nat} {N : Nat} {K17 : Nat → Int32 → Int32 → St → Option (Int32 × St)} {x0 : Nat} {x1 : Int32} {x2 : Int32} {z0 z : St} (hM : mX0_tellsDraft_17b &&& M = mX0_tellsDraft_17b)  (hK17 : ∀ a0 a1 a2 a3, zFr M z0 a3 → zPw M z0 (K17 a0 a1 a2 a3)) (h : zFr M z0 z) : zPw M z0 (fX0_tellsDraft_17b N K17 x0 x1 x2 z) := by
  unfold fX0_tellsDraft_17b
  exact zw_i (zw_s h) (zw_k (zw_k (zw_k (zw_i (zw_l (fun v6 => hK17 _ _ _ _ h)) (zw_s h)))))
def mX0_tellsDraft_17 : Nat := 0x0
theorem wX0_tellsDraft_17 {M : Nat} {z0 : St} {N : Nat}(hM : mX0_tellsDraft_17 &&& M = mX0_tellsDraft_17)  : ∀ (n : Nat) (y0 : Nat) (y1 : Int32) (y2 : Int32) (z : St), zFr M z0 z → zPw M z0 (fX0_tellsDraft_17 N n y0 y1 y2 z) := by
  intro n
  induction n with
  | zero => intro y0 y1 y2 z h; exact zw_n
  | succ n ih => intro y0 y1 y2 z h; exact wX0_tellsDraft_17b (ztr rfl hM)  (fun _ _ _ _ h => ih _ _ _ _ h) h
def mX0_tellsDraft : Nat := 0x0
theorem wX0_tellsDraft {M : Nat} {N : Nat} {x0 : Nat} {x1 : Int32} {z0 z : St} (hM : mX0_tellsDraft &&& M = mX0_tellsDraft)  (h : zFr M z0 z) : zPw M z0 (fX0_tellsDraft N x0 x1 z) := by
  unfold fX0_tellsDraft
  exact zw_k (zw_i (wX0_tellsDraft_17 (ztr rfl hM)  _ _ _ _ _ h) (zw_s h))
def mX0_takeDraft_27b : Nat := 0x1000000000000000000000000000000000000000000000000000000000000000000000000000000000000000000000000000000000000000000000000000000000000000000000000000000000000000000000000000000000000000000000000000000000000000000000000000000000000000000000000000000000000000000000000000000000000000000000000000000000000000000000000000000200
theorem wX0_takeDraft_27b {M : Nat} {N : Nat} {K27 : Nat → Int32 → Int32 → St → Option (Int32 × St)} {x0 : Nat} {x1 : Int32} {x4 : Int32} {z0 z : St} (hM : mX0_takeDraft_27b &&& M = mX0_takeDraft_27b)  (hK27 : ∀ a0 a1 a2 a3, zFr M z0 a3 → zPw M z0 (K27 a0 a1 a2 a3)) (h : zFr M z0 z) : zPw M z0 (fX0_takeDraft_27b N K27 x0 x1 x4 z) := by
  unfold fX0_takeDraft_27b
  exact zw_i (zw_lI h (ztb hM rfl) (fun z2 h1 => zw_s h1)) (zw_k (zw_k (zw_k (zw_lA h (ztb hM rfl) (fun z6 h2 => zw_l (fun v7 => hK27 _ _ _ _ h2))))))
def mX0_takeDraft_27 : Nat := 0x1000000000000000000000000000000000000000000000000000000000000000000000000000000000000000000000000000000000000000000000000000000000000000000000000000000000000000000000000000000000000000000000000000000000000000000000000000000000000000000000000000000000000000000000000000000000000000000000000000000000000000000000000000000200
theorem wX0_takeDraft_27 {M : Nat} {z0 : St} {N : Nat}(hM : mX0_takeDraft_27 &&& M = mX0_takeDraft_27)  : ∀ (n : Nat) (y0 : Nat) (y1 : Int32) (y2 : Int32) (z : St), zFr M z0 z → zPw M z0 (fX0_takeDraft_27 N n y0 y1 y2 z) := by
  intro n
  induction n with
  | zero => intro y0 y1 y2 z h; exact zw_n
  | succ n ih => intro y0 y1 y2 z h; exact wX0_takeDraft_27b (ztr rfl hM)  (fun _ _ _ _ h => ih _ _ _ _ h) h
def mX0_takeDraft : Nat := 0x1700000000000000000000000000000000000000000000000000000000000000000000000000000000000000000000000000000000000000000000000000000000000000000000000000000000000000000000000000000000000000000000000000000000000000000000000000000000000000000000000000000000000000000000000000000000000000000000000000000000000000000000000000000200
theorem wX0_takeDraft {M : Nat} {N : Nat} {x0 : Nat} {x1 : Int32} {x2 : Int32} {x3 : Int32} {z0 z : St} (hM : mX0_takeDraft &&& M = mX0_takeDraft)  (h : zFr M z0 z) : zPw M z0 (fX0_takeDraft N x0 x1 x2 x3 z) := by
  unfold fX0_takeDraft
  exact zw_k (zw_lA h (ztb hM rfl) (fun z2 h1 => zw_k (zw_lA h1 (ztb hM rfl) (fun z4 h2 => zw_k (zw_lA h2 (ztb hM rfl) (fun z6 h3 => wX0_takeDraft_27 (ztr rfl hM)  _ _ _ _ _ h3))))))
def mX7_get2 : Nat := 0x0
theorem wX7_get2 {M : Nat} {N : Nat} {x0 : Nat} {x1 : Int32} {z0 z : St} (hM : mX7_get2 &&& M = mX7_get2)  (h : zFr M z0 z) : zPw M z0 (fX7_get2 N x0 x1 z) := by
  unfold fX7_get2
  exact zw_i (zw_s h) (zw_i (zw_k (zw_k (zw_s h))) (zw_s h))
def mX0_takeAdvert_21b : Nat := 0x3700000000000000000000000000000000000000000000000000000000000000000000000000000000000000000000000000000000000000000000000000000000000000000000000000000000000000000000000000000000000000000000000000000000000000000000000000000000000000000000000000000000000000000000000000000000000000000000000000000000000000000000000000000240
theorem wX0_takeAdvert_21b {M : Nat} {N : Nat} {K21 : Nat → Nat → Int32 → Int32 → Int32 → Int32 → Int32 → St → Option (Int32 × St)} {x0 : Nat} {x1 : Nat} {x2 : Int32} {x3 : Int32} {x4 : Int32} {x5 : Int32} {x6 : Int32} {z0 z : St} (hM : mX0_takeAdvert_21b &&& M = mX0_takeAdvert_21b)  (hK21 : ∀ a0 a1 a2 a3 a4 a5 a6 a7, zFr M z0 a7 → zPw M z0 (K21 a0 a1 a2 a3 a4 a5 a6 a7)) (h : zFr M z0 z) : zPw M z0 (fX0_takeAdvert_21b N K21 x0 x1 x2 x3 x4 x5 x6 z) := by
  unfold fX0_takeAdvert_21b
  exact zw_i (zw_c (wX0_takeDraft (ztr rfl hM)  h) (fun _ z3 h1 => zw_s h1)) (zw_l (fun v6 => zw_c (wX7_get2 (ztr rfl hM)  h) (fun r7 z8 h2 => zw_c (wX7_get2 (ztr rfl hM)  h2) (fun r11 z12 h3 => zw_c (wX7_get2 (ztr rfl hM)  h3) (fun r15 z16 h4 => zw_c (wX0_addToDraft (ztr rfl hM)  h4) (fun _ z20 h5 => zw_l (fun v23 => hK21 _ _ _ _ _ _ _ _ h5)))))))
def mX0_takeAdvert_21 : Nat := 0x3700000000000000000000000000000000000000000000000000000000000000000000000000000000000000000000000000000000000000000000000000000000000000000000000000000000000000000000000000000000000000000000000000000000000000000000000000000000000000000000000000000000000000000000000000000000000000000000000000000000000000000000000000000240
theorem wX0_takeAdvert_21 {M : Nat} {z0 : St} {N : Nat}(hM : mX0_takeAdvert_21 &&& M = mX0_takeAdvert_21)  : ∀ (n : Nat) (y0 : Nat) (y1 : Nat) (y2 : Int32) (y3 : Int32) (y4 : Int32) (y5 : Int32) (y6 : Int32) (z : St), zFr M z0 z → zPw M z0 (fX0_takeAdvert_21 N n y0 y1 y2 y3 y4 y5 y6 z) := by
  intro n
  induction n with
  | zero => intro y0 y1 y2 y3 y4 y5 y6 z h; exact zw_n
  | succ n ih => intro y0 y1 y2 y3 y4 y5 y6 z h; exact wX0_takeAdvert_21b (ztr rfl hM)  (fun _ _ _ _ _ _ _ _ h => ih _ _ _ _ _ _ _ _ h) h
def mX0_takeAdvert : Nat := 0x3700000000000000000000000000000000000000000000000000000000000000000000000000000000000000000000000000000000000000000000000000000000000000000000000000000000000000000000000000000000000000000000000000000000000000000000000000000000000000000000000000000000000000000000000000000000000000000000000000000000000000000000000000000240
theorem wX0_takeAdvert {M : Nat} {N : Nat} {x0 : Nat} {x1 : Nat} {x2 : Int32} {x3 : Int32} {x4 : Int32} {z0 z : St} (hM : mX0_takeAdvert &&& M = mX0_takeAdvert)  (h : zFr M z0 z) : zPw M z0 (fX0_takeAdvert N x0 x1 x2 x3 x4 z) := by
  unfold fX0_takeAdvert
  exact zw_lI h (ztb hM rfl) (fun z1 h1 => zw_c (wX7_get2 (ztr rfl hM)  h1) (fun r2 z3 h2 => zw_l (fun v6 => wX0_takeAdvert_21 (ztr rfl hM)  _ _ _ _ _ _ _ _ _ h2)))
def mX7_begin_21 : Nat := 0x6f00000000000000000000000000000000000000000000000000000000000000000000000000000000000000000000000000000000000000000
theorem wX7_begin_21 {M : Nat} {N : Nat} {x0 : Nat} {x2 : Int32} {s0 : Nat} {s1 : Int32} {z0 z : St} (hM : mX7_begin_21 &&& M = mX7_begin_21)  (h : zFr M z0 z) : zPw M z0 (fX7_begin_21 N x0 x2 s0 s1 z) := by
  unfold fX7_begin_21
  exact zw_lI h (ztb hM rfl) (fun z1 h1 => zw_lI h1 (ztb hM rfl) (fun z2 h2 => zw_lI h2 (ztb hM rfl) (fun z3 h3 => zw_lI h3 (ztb hM rfl) (fun z4 h4 => zw_lI h4 (ztb hM rfl) (fun z5 h5 => zw_lI h5 (ztb hM rfl) (fun z6 h6 => zw_s h6))))))
def mX7_begin_15 : Nat := 0x6f00000000000000000000000000000000000000000000000000000000000000000000000000000000000000000000000000000000000000000
theorem wX7_begin_15 {M : Nat} {N : Nat} {x0 : Nat} {x2 : Int32} {s0 : Nat} {z0 z : St} (hM : mX7_begin_15 &&& M = mX7_begin_15)  (h : zFr M z0 z) : zPw M z0 (fX7_begin_15 N x0 x2 s0 z) := by
  unfold fX7_begin_15
  exact wX7_begin_21 (ztr rfl hM)  h
def mX7_begin : Nat := 0x6f40000000000000000000000000000000000000000000000000000000000000000000000000000000000000000000000000000000000000000
theorem wX7_begin {M : Nat} {N : Nat} {x0 : Nat} {x1 : Int32} {x2 : Int32} {z0 z : St} (hM : mX7_begin &&& M = mX7_begin)  (h : zFr M z0 z) : zPw M z0 (fX7_begin N x0 x1 x2 z) := by
  unfold fX7_begin
  exact zw_lI h (ztb hM rfl) (fun z1 h1 => zw_i (wX7_begin_15 (ztr rfl hM)  h1) (zw_i (wX7_begin_21 (ztr rfl hM)  h1) (wX7_begin_15 (ztr rfl hM)  h1)))
def mX7_put2 : Nat := 0x200000000000000000000000000000000000000000000000000000000000000000000000000000000000000000000000000000000000000000000000000000000000000000000000000000000000000000000000000000000000000000000000000000000000000000000000000000000000000000000000000000000000000000000000000000000000000000000000000000000000000000000000000000000000000
theorem wX7_put2 {M : Nat} {N : Nat} {x0 : Nat} {x1 : Int32} {x2 : Int32} {z0 z : St} (hM : mX7_put2 &&& M = mX7_put2)  (h : zFr M z0 z) : zPw M z0 (fX7_put2 N x0 x1 x2 z) := by
  unfold fX7_put2
  exact zw_i (zw_s h) (zw_i (zw_k (zw_lA h (ztb hM rfl) (fun z4 h1 => zw_k (zw_lA h1 (ztb hM rfl) (fun z6 h2 => zw_s h2))))) (zw_s h))
def mX7_put4_16b : Nat := 0x200000000000000000000000000000000000000000000000000000000000000000000000000000000000000000000000000000000000000000000000000000000000000000000000000000000000000000000000000000000000000000000000000000000000000000000000000000000000000000000000000000000000000000000000000000000000000000000000000000000000000000000000000000000000000
theorem wX7_put4_16b {M : Nat} {N : Nat} {K16 : Nat → Int32 → Int32 → Int32 → St → Option (Int32 × St)} {x0 : Nat} {x1 : Int32} {x2 : Int32} {x3 : Int32} {z0 z : St} (hM : mX7_put4_16b &&& M = mX7_put4_16b)  (hK16 : ∀ a0 a1 a2 a3 a4, zFr M z0 a4 → zPw M z0 (K16 a0 a1 a2 a3 a4)) (h : zFr M z0 z) : zPw M z0 (fX7_put4_16b N K16 x0 x1 x2 x3 z) := by
  unfold fX7_put4_16b
  exact zw_i (zw_s h) (zw_k (zw_lA h (ztb hM rfl) (fun z3 h1 => zw_l (fun v4 => hK16 _ _ _ _ _ h1))))
def mX7_put4_16 : Nat := 0x200000000000000000000000000000000000000000000000000000000000000000000000000000000000000000000000000000000000000000000000000000000000000000000000000000000000000000000000000000000000000000000000000000000000000000000000000000000000000000000000000000000000000000000000000000000000000000000000000000000000000000000000000000000000000
theorem wX7_put4_16 {M : Nat} {z0 : St} {N : Nat}(hM : mX7_put4_16 &&& M = mX7_put4_16)  : ∀ (n : Nat) (y0 : Nat) (y1 : Int32) (y2 : Int32) (y3 : Int32) (z : St), zFr M z0 z → zPw M z0 (fX7_put4_16 N n y0 y1 y2 y3 z) := by
  intro n
  induction n with
  | zero => intro y0 y1 y2 y3 z h; exact zw_n
  | succ n ih => intro y0 y1 y2 y3 z h; exact wX7_put4_16b (ztr rfl hM)  (fun _ _ _ _ _ h => ih _ _ _ _ _ h) h
def mX7_put4 : Nat := 0x200000000000000000000000000000000000000000000000000000000000000000000000000000000000000000000000000000000000000000000000000000000000000000000000000000000000000000000000000000000000000000000000000000000000000000000000000000000000000000000000000000000000000000000000000000000000000000000000000000000000000000000000000000000000000
theorem wX7_put4 {M : Nat} {N : Nat} {x0 : Nat} {x1 : Int32} {x2 : Int32} {z0 z : St} (hM : mX7_put4 &&& M = mX7_put4)  (h : zFr M z0 z) : zPw M z0 (fX7_put4 N x0 x1 x2 z) := by
  unfold fX7_put4
  exact zw_i (zw_s h) (zw_i (wX7_put4_16 (ztr rfl hM)  _ _ _ _ _ _ h) (zw_s h))
def mX0_putAdvert_48b : Nat := 0x200000000000000000000000000000000000000000000000000000000000000000000000000000000000000000000000000000000000000000000000000000000000000000000000000000000000000000000000000000000000000000000000000000000000000000000000000000000000000000000000000000000000000000000000000000000000000000000000000000000000000000000000000000000000000
theorem wX0_putAdvert_48b {M : Nat} {N : Nat} {K48 : Nat → Nat → Int32 → Int32 → St → Option (Int32 × St)} {x0 : Nat} {x1 : Nat} {x2 : Int32} {x3 : Int32} {z0 z : St} (hM : mX0_putAdvert_48b &&& M = mX0_putAdvert_48b)  (hK48 : ∀ a0 a1 a2 a3 a4, zFr M z0 a4 → zPw M z0 (K48 a0 a1 a2 a3 a4)) (h : zFr M z0 z) : zPw M z0 (fX0_putAdvert_48b N K48 x0 x1 x2 x3 z) := by
  unfold fX0_putAdvert_48b
  exact zw_k (zw_i (zw_s h) (zw_l (fun v3 => zw_k (zw_k (zw_c (wX0_friendOf (ztr rfl hM)  h) (fun r6 z7 h1 => zw_c (wX7_put2 (ztr rfl hM)  h1) (fun _ z11 h2 => zw_k (zw_k (zw_c (wX0_netOfEntry (ztr rfl hM)  h2) (fun r16 z17 h3 => zw_c (wX7_put2 (ztr rfl hM)  h3) (fun _ z21 h4 => zw_k (zw_k (zw_c (wX0_tollOf (ztr rfl hM)  h4) (fun r26 z27 h5 => zw_c (wX7_put2 (ztr rfl hM)  h5) (fun _ z31 h6 => zw_l (fun v34 => hK48 _ _ _ _ _ h6))))))))))))))))
def mX0_putAdvert_48 : Nat := 0x200000000000000000000000000000000000000000000000000000000000000000000000000000000000000000000000000000000000000000000000000000000000000000000000000000000000000000000000000000000000000000000000000000000000000000000000000000000000000000000000000000000000000000000000000000000000000000000000000000000000000000000000000000000000000
theorem wX0_putAdvert_48 {M : Nat} {z0 : St} {N : Nat}(hM : mX0_putAdvert_48 &&& M = mX0_putAdvert_48)  : ∀ (n : Nat) (y0 : Nat) (y1 : Nat) (y2 : Int32) (y3 : Int32) (z : St), zFr M z0 z → zPw M z0 (fX0_putAdvert_48 N n y0 y1 y2 y3 z) := by
  intro n
  induction n with
  | zero => intro y0 y1 y2 y3 z h; exact zw_n
  | succ n ih => intro y0 y1 y2 y3 z h; exact wX0_putAdvert_48b (ztr rfl hM)  (fun _ _ _ _ _ h => ih _ _ _ _ _ h) h
def mX0_putAdvert : Nat := 0x200000000000000000000000000000000000000000000000000000000000000000000000000000000000000000000000000000000000000000000000000000000000000000000000000000000000000000000000000000000000000000000000000000000000000000006f40000000000000000000000000000000000000000000000000000000000000000000000000000000000000000000000000000000000000000
theorem wX0_putAdvert {M : Nat} {N : Nat} {x0 : Nat} {x1 : Nat} {x2 : Int32} {z0 z : St} (hM : mX0_putAdvert &&& M = mX0_putAdvert)  (h : zFr M z0 z) : zPw M z0 (fX0_putAdvert N x0 x1 x2 z) := by
  unfold fX0_putAdvert
  exact zw_k (zw_c (wX7_begin (ztr rfl hM)  h) (fun _ z3 h1 => zw_c (wX7_put2 (ztr rfl hM)  h1) (fun _ z7 h2 => zw_k (zw_c (wX7_put4 (ztr rfl hM)  h2) (fun _ z12 h3 => zw_k (zw_c (wX7_put2 (ztr rfl hM)  h3) (fun _ z17 h4 => wX0_putAdvert_48 (ztr rfl hM)  _ _ _ _ _ _ h4)))))))
def mX0_takeOut : Nat := 0x500000000000000000000000000000000000000000000000000000000000000000000000000000000000000000000000000000000000000000000000000000000000000000000000000000000000000000000000000000000000000000000000000000000000000000000000000000000000000000000000000000000000000000000000000000000000000000000000000000000000000000000000000000200
theorem wX0_takeOut {M : Nat} {N : Nat} {x0 : Nat} {x1 : Int32} {z0 z : St} (hM : mX0_takeOut &&& M = mX0_takeOut)  (h : zFr M z0 z) : zPw M z0 (fX0_takeOut N x0 x1 z) := by
  unfold fX0_takeOut
  exact zw_k (zw_lA h (ztb hM rfl) (fun z2 h1 => zw_k (zw_lA h1 (ztb hM rfl) (fun z4 h2 => zw_lI h2 (ztb hM rfl) (fun z5 h3 => zw_s h3)))))
def mX0_tellsOfFriend_48 : Nat := 0x0
theorem wX0_tellsOfFriend_48 {M : Nat} {N : Nat} {K3 : Nat → Int32 → Int32 → Int32 → Int32 → St → Option (Int32 × St)} {x0 : Nat} {x1 : Int32} {x2 : Int32} {x3 : Int32} {x4 : Int32} {z0 z : St} (hM : mX0_tellsOfFriend_48 &&& M = mX0_tellsOfFriend_48)  (hK3 : ∀ a0 a1 a2 a3 a4 a5, zFr M z0 a5 → zPw M z0 (K3 a0 a1 a2 a3 a4 a5)) (h : zFr M z0 z) : zPw M z0 (fX0_tellsOfFriend_48 N K3 x0 x1 x2 x3 x4 z) := by
  unfold fX0_tellsOfFriend_48
  exact zw_l (fun v1 => hK3 _ _ _ _ _ _ h)
def mX0_tellsOfFriend_3b : Nat := 0x0
theorem wX0_tellsOfFriend_3b {M : Nat} {N : Nat} {K3 : Nat → Int32 → Int32 → Int32 → Int32 → St → Option (Int32 × St)} {x0 : Nat} {x1 : Int32} {x2 : Int32} {x3 : Int32} {x4 : Int32} {z0 z : St} (hM : mX0_tellsOfFriend_3b &&& M = mX0_tellsOfFriend_3b)  (hK3 : ∀ a0 a1 a2 a3 a4 a5, zFr M z0 a5 → zPw M z0 (K3 a0 a1 a2 a3 a4 a5)) (h : zFr M z0 z) : zPw M z0 (fX0_tellsOfFriend_3b N K3 x0 x1 x2 x3 x4 z) := by
  unfold fX0_tellsOfFriend_3b
  exact zw_k (zw_i (zw_s h) (zw_k (zw_k (zw_c (wX0_friendOf (ztr rfl hM)  h) (fun r5 z6 h1 => zw_i (wX0_tellsOfFriend_48 (ztr rfl hM) hK3 h1) (zw_k (zw_k (zw_c (wX0_netOfEntry (ztr rfl hM)  h1) (fun r12 z13 h2 => zw_i (wX0_tellsOfFriend_48 (ztr rfl hM) hK3 h2) (zw_s h2))))))))))
def mX0_tellsOfFriend_3 : Nat := 0x0
theorem wX0_tellsOfFriend_3 {M : Nat} {z0 : St} {N : Nat}(hM : mX0_tellsOfFriend_3 &&& M = mX0_tellsOfFriend_3)  : ∀ (n : Nat) (y0 : Nat) (y1 : Int32) (y2 : Int32) (y3 : Int32) (y4 : Int32) (z : St), zFr M z0 z → zPw M z0 (fX0_tellsOfFriend_3 N n y0 y1 y2 y3 y4 z) := by
  intro n
  induction n with
  | zero => intro y0 y1 y2 y3 y4 z h; exact zw_n
  | succ n ih => intro y0 y1 y2 y3 y4 z h; exact wX0_tellsOfFriend_3b (ztr rfl hM)  (fun _ _ _ _ _ _ h => ih _ _ _ _ _ _ h) h
def mX0_tellsOfFriend : Nat := 0x0
theorem wX0_tellsOfFriend {M : Nat} {N : Nat} {x0 : Nat} {x1 : Int32} {x2 : Int32} {x3 : Int32} {z0 z : St} (hM : mX0_tellsOfFriend &&& M = mX0_tellsOfFriend)  (h : zFr M z0 z) : zPw M z0 (fX0_tellsOfFriend N x0 x1 x2 x3 z) := by
  unfold fX0_tellsOfFriend
  exact wX0_tellsOfFriend_3 (ztr rfl hM)  _ _ _ _ _ _ _ h
def mX0_goOnFrom_167 : Nat := 0x0
theorem wX0_goOnFrom_167 {M : Nat} {N : Nat} {K2 : Nat → Int32 → Int32 → St → Option (Int32 × St)} {x0 : Nat} {x1 : Int32} {x2 : Int32} {z0 z : St} (hM : mX0_goOnFrom_167 &&& M = mX0_goOnFrom_167)  (hK2 : ∀ a0 a1 a2 a3, zFr M z0 a3 → zPw M z0 (K2 a0 a1 a2 a3)) (h : zFr M z0 z) : zPw M z0 (fX0_goOnFrom_167 N K2 x0 x1 x2 z) := by
  unfold fX0_goOnFrom_167
  exact zw_l (fun v1 => hK2 _ _ _ _ h)
def mX0_goOnFrom_149 : Nat := 0xa0000000000000000000000000000000000000000000000000000000000000000000000000000000000000000000000000000000000000000000000000000000000000000000000000000000000000000000000000000000000000000000000000000000000000000000000000000000000000000000000000000000000000000000000000000000000000000000000000000000000000000000000000000000000
theorem wX0_goOnFrom_149 {M : Nat} {N : Nat} {K2 : Nat → Int32 → Int32 → St → Option (Int32 × St)} {x0 : Nat} {x1 : Int32} {x2 : Int32} {x4 : Int32} {x6 : Int32} {x7 : Int32} {z0 z : St} (hM : mX0_goOnFrom_149 &&& M = mX0_goOnFrom_149)  (hK2 : ∀ a0 a1 a2 a3, zFr M z0 a3 → zPw M z0 (K2 a0 a1 a2 a3)) (h : zFr M z0 z) : zPw M z0 (fX0_goOnFrom_149 N K2 x0 x1 x2 x4 x6 x7 z) := by
  unfold fX0_goOnFrom_149
  exact zw_k (zw_lA h (ztb hM rfl) (fun z2 h1 => zw_k (zw_lA h1 (ztb hM rfl) (fun z4 h2 => wX0_goOnFrom_167 (ztr rfl hM) hK2 h2))))
def mX0_goOnFrom_108 : Nat := 0xa0000000000000000000000000000000000000000000000000000000000000000000000000000000000000000000000000000000000000000000000000000000000000000000000000000000000000000000000000000000000000000000000000000000000000000000000000000000000000000000000000000000000000000000000000000000000000000000000000000000000000000000000000000000000
theorem wX0_goOnFrom_108 {M : Nat} {N : Nat} {K2 : Nat → Int32 → Int32 → St → Option (Int32 × St)} {x0 : Nat} {x1 : Int32} {x2 : Int32} {x4 : Int32} {x6 : Int32} {s0 : Int32} {z0 z : St} (hM : mX0_goOnFrom_108 &&& M = mX0_goOnFrom_108)  (hK2 : ∀ a0 a1 a2 a3, zFr M z0 a3 → zPw M z0 (K2 a0 a1 a2 a3)) (h : zFr M z0 z) : zPw M z0 (fX0_goOnFrom_108 N K2 x0 x1 x2 x4 x6 s0 z) := by
  unfold fX0_goOnFrom_108
  exact zw_k (zw_i (wX0_goOnFrom_167 (ztr rfl hM) hK2 h) (zw_k (zw_i (wX0_goOnFrom_149 (ztr rfl hM) hK2 h) (zw_k (zw_i (wX0_goOnFrom_149 (ztr rfl hM) hK2 h) (wX0_goOnFrom_167 (ztr rfl hM) hK2 h))))))
def mX0_goOnFrom_2b : Nat := 0xa0000000000000000000000000000000000000000000000000000000000000000000000000000000000000000000000000000000000000000000000000000000000000000000000000000000000000000000000000000000000000000000000000000000000000000000000000000000000000000000000000000000000000000000000000000000000000000000000000000000000000000000000000000000000
theorem wX0_goOnFrom_2b {M : Nat} {N : Nat} {K2 : Nat → Int32 → Int32 → St → Option (Int32 × St)} {x0 : Nat} {x1 : Int32} {x2 : Int32} {z0 z : St} (hM : mX0_goOnFrom_2b &&& M = mX0_goOnFrom_2b)  (hK2 : ∀ a0 a1 a2 a3, zFr M z0 a3 → zPw M z0 (K2 a0 a1 a2 a3)) (h : zFr M z0 z) : zPw M z0 (fX0_goOnFrom_2b N K2 x0 x1 x2 z) := by
  unfold fX0_goOnFrom_2b
  exact zw_k (zw_i (zw_s h) (zw_k (zw_k (zw_l (fun v5 => zw_c (wX0_friendOf (ztr rfl hM)  h) (fun r6 z7 h1 => zw_c (wX0_netOfEntry (ztr rfl hM)  h1) (fun r10 z11 h2 => zw_i (wX0_goOnFrom_167 (ztr rfl hM) hK2 h2) (zw_i (wX0_goOnFrom_167 (ztr rfl hM) hK2 h2) (zw_k (zw_i (wX0_goOnFrom_167 (ztr rfl hM) hK2 h2) (zw_c (wX0_tellsOfFriend (ztr rfl hM)  h2) (fun r18 z19 h3 => zw_i (zw_k (zw_c (wX0_tollOf (ztr rfl hM)  h3) (fun r24 z25 h4 => zw_l (fun v28 => zw_i (zw_k (wX0_goOnFrom_108 (ztr rfl hM) hK2 h4)) (wX0_goOnFrom_108 (ztr rfl hM) hK2 h4))))) (wX0_goOnFrom_167 (ztr rfl hM) hK2 h3)))))))))))))
def mX0_goOnFrom_2 : Nat := 0xa0000000000000000000000000000000000000000000000000000000000000000000000000000000000000000000000000000000000000000000000000000000000000000000000000000000000000000000000000000000000000000000000000000000000000000000000000000000000000000000000000000000000000000000000000000000000000000000000000000000000000000000000000000000000
theorem wX0_goOnFrom_2 {M : Nat} {z0 : St} {N : Nat}(hM : mX0_goOnFrom_2 &&& M = mX0_goOnFrom_2)  : ∀ (n : Nat) (y0 : Nat) (y1 : Int32) (y2 : Int32) (z : St), zFr M z0 z → zPw M z0 (fX0_goOnFrom_2 N n y0 y1 y2 z) := by
  intro n
  induction n with
  | zero => intro y0 y1 y2 z h; exact zw_n
  | succ n ih => intro y0 y1 y2 z h; exact wX0_goOnFrom_2b (ztr rfl hM)  (fun _ _ _ _ h => ih _ _ _ _ h) h
def mX0_goOnFrom : Nat := 0xa0000000000000000000000000000000000000000000000000000000000000000000000000000000000000000000000000000000000000000000000000000000000000000000000000000000000000000000000000000000000000000000000000000000000000000000000000000000000000000000000000000000000000000000000000000000000000000000000000000000000000000000000000000000000
theorem wX0_goOnFrom {M : Nat} {N : Nat} {x0 : Nat} {x1 : Int32} {z0 z : St} (hM : mX0_goOnFrom &&& M = mX0_goOnFrom)  (h : zFr M z0 z) : zPw M z0 (fX0_goOnFrom N x0 x1 z) := by
  unfold fX0_goOnFrom
  exact wX0_goOnFrom_2 (ztr rfl hM)  _ _ _ _ _ h
def mX0_findDistances_108 : Nat := 0x0
theorem wX0_findDistances_108 {M : Nat} {N : Nat} {K48 : Nat → Int32 → St → Option (Int32 × St)} {K58 : Nat → Int32 → Int32 → Int32 → St → Option (Int32 × St)} {x0 : Nat} {x1 : Int32} {x2 : Int32} {x3 : Int32} {z0 z : St} (hM : mX0_findDistances_108 &&& M = mX0_findDistances_108)  (hK48 : ∀ a0 a1 a2, zFr M z0 a2 → zPw M z0 (K48 a0 a1 a2)) (hK58 : ∀ a0 a1 a2 a3 a4, zFr M z0 a4 → zPw M z0 (K58 a0 a1 a2 a3 a4)) (h : zFr M z0 z) : zPw M z0 (fX0_findDistances_108 N K48 K58 x0 x1 x2 x3 z) := by
  unfold fX0_findDistances_108
  exact zw_l (fun v1 => hK58 _ _ _ _ _ h)
def mX0_findDistances_106 : Nat := 0x0
theorem wX0_findDistances_106 {M : Nat} {N : Nat} {K48 : Nat → Int32 → St → Option (Int32 × St)} {K58 : Nat → Int32 → Int32 → Int32 → St → Option (Int32 × St)} {x0 : Nat} {x1 : Int32} {x3 : Int32} {z0 z : St} (hM : mX0_findDistances_106 &&& M = mX0_findDistances_106)  (hK48 : ∀ a0 a1 a2, zFr M z0 a2 → zPw M z0 (K48 a0 a1 a2)) (hK58 : ∀ a0 a1 a2 a3 a4, zFr M z0 a4 → zPw M z0 (K58 a0 a1 a2 a3 a4)) (h : zFr M z0 z) : zPw M z0 (fX0_findDistances_106 N K48 K58 x0 x1 x3 z) := by
  unfold fX0_findDistances_106
  exact wX0_findDistances_108 (ztr rfl hM) hK48 hK58 h
def mX0_findDistances_58b : Nat := 0xe0000000000000000000000000000000000000000000000000000000000000000000000000000000000000000000000000000000000000000000000000000000000000000000000000000000000000000000000000000000000000000000000000000000000000000000000000000000000000000000000000000000000000000000000000000000000000000000000000000000000000000000000000000000000
theorem wX0_findDistances_58b {M : Nat} {N : Nat} {K48 : Nat → Int32 → St → Option (Int32 × St)} {K58 : Nat → Int32 → Int32 → Int32 → St → Option (Int32 × St)} {x0 : Nat} {x1 : Int32} {x2 : Int32} {x3 : Int32} {z0 z : St} (hM : mX0_findDistances_58b &&& M = mX0_findDistances_58b)  (hK48 : ∀ a0 a1 a2, zFr M z0 a2 → zPw M z0 (K48 a0 a1 a2)) (hK58 : ∀ a0 a1 a2 a3 a4, zFr M z0 a4 → zPw M z0 (K58 a0 a1 a2 a3 a4)) (h : zFr M z0 z) : zPw M z0 (fX0_findDistances_58b N K48 K58 x0 x1 x2 x3 z) := by
  unfold fX0_findDistances_58b
  exact zw_i (zw_i (zw_k (zw_lA h (ztb hM rfl) (fun z4 h1 => zw_c (wX0_goOnFrom (ztr rfl hM)  h1) (fun _ z6 h2 => zw_l (fun v9 => hK48 _ _ _ h2))))) (zw_s h)) (zw_k (zw_i (wX0_findDistances_108 (ztr rfl hM) hK48 hK58 h) (zw_k (zw_i (zw_i (wX0_findDistances_106 (ztr rfl hM) hK48 hK58 h) (zw_k (zw_k (zw_i (wX0_findDistances_108 (ztr rfl hM) hK48 hK58 h) (wX0_findDistances_106 (ztr rfl hM) hK48 hK58 h))))) (wX0_findDistances_108 (ztr rfl hM) hK48 hK58 h)))))
def mX0_findDistances_58 : Nat := 0xe0000000000000000000000000000000000000000000000000000000000000000000000000000000000000000000000000000000000000000000000000000000000000000000000000000000000000000000000000000000000000000000000000000000000000000000000000000000000000000000000000000000000000000000000000000000000000000000000000000000000000000000000000000000000
theorem wX0_findDistances_58 {M : Nat} {z0 : St} {N : Nat} {K48 : Nat → Int32 → St → Option (Int32 × St)}(hM : mX0_findDistances_58 &&& M = mX0_findDistances_58)  (hK48 : ∀ a0 a1 a2, zFr M z0 a2 → zPw M z0 (K48 a0 a1 a2)) : ∀ (n : Nat) (y0 : Nat) (y1 : Int32) (y2 : Int32) (y3 : Int32) (z : St), zFr M z0 z → zPw M z0 (fX0_findDistances_58 N K48 n y0 y1 y2 y3 z) := by
  intro n
  induction n with
  | zero => intro y0 y1 y2 y3 z h; exact zw_n
  | succ n ih => intro y0 y1 y2 y3 z h; exact wX0_findDistances_58b (ztr rfl hM) hK48 (fun _ _ _ _ _ h => ih _ _ _ _ _ h) h
def mX0_findDistances_48b : Nat := 0xe0000000000000000000000000000000000000000000000000000000000000000000000000000000000000000000000000000000000000000000000000000000000000000000000000000000000000000000000000000000000000000000000000000000000000000000000000000000000000000000000000000000000000000000000000000000000000000000000000000000000000000000000000000000000
theorem wX0_findDistances_48b {M : Nat} {N : Nat} {K48 : Nat → Int32 → St → Option (Int32 × St)} {x0 : Nat} {x1 : Int32} {z0 z : St} (hM : mX0_findDistances_48b &&& M = mX0_findDistances_48b)  (hK48 : ∀ a0 a1 a2, zFr M z0 a2 → zPw M z0 (K48 a0 a1 a2)) (h : zFr M z0 z) : zPw M z0 (fX0_findDistances_48b N K48 x0 x1 z) := by
  unfold fX0_findDistances_48b
  exact zw_i (zw_s h) (wX0_findDistances_58 (ztr rfl hM) hK48 _ _ _ _ _ _ h)
def mX0_findDistances_48 : Nat := 0xe0000000000000000000000000000000000000000000000000000000000000000000000000000000000000000000000000000000000000000000000000000000000000000000000000000000000000000000000000000000000000000000000000000000000000000000000000000000000000000000000000000000000000000000000000000000000000000000000000000000000000000000000000000000000
theorem wX0_findDistances_48 {M : Nat} {z0 : St} {N : Nat}(hM : mX0_findDistances_48 &&& M = mX0_findDistances_48)  : ∀ (n : Nat) (y0 : Nat) (y1 : Int32) (z : St), zFr M z0 z → zPw M z0 (fX0_findDistances_48 N n y0 y1 z) := by
  intro n
  induction n with
  | zero => intro y0 y1 z h; exact zw_n
  | succ n ih => intro y0 y1 z h; exact wX0_findDistances_48b (ztr rfl hM)  (fun _ _ _ h => ih _ _ _ h) h
def mX0_findDistances_2b : Nat := 0xe0000000000000000000000000000000000000000000000000000000000000000000000000000000000000000000000000000000000000000000000000000000000000000000000000000000000000000000000000000000000000000000000000000000000000000000000000000000000000000000000000000000000000000000000000000000000000000000000000000000000000000000000000000000000
theorem wX0_findDistances_2b {M : Nat} {N : Nat} {K2 : Nat → Int32 → St → Option (Int32 × St)} {x0 : Nat} {x1 : Int32} {z0 z : St} (hM : mX0_findDistances_2b &&& M = mX0_findDistances_2b)  (hK2 : ∀ a0 a1 a2, zFr M z0 a2 → zPw M z0 (K2 a0 a1 a2)) (h : zFr M z0 z) : zPw M z0 (fX0_findDistances_2b N K2 x0 x1 z) := by
  unfold fX0_findDistances_2b
  exact zw_i (zw_k (zw_lA h (ztb hM rfl) (fun z3 h1 => wX0_findDistances_48 (ztr rfl hM)  _ _ _ _ h1))) (zw_k (zw_lA h (ztb hM rfl) (fun z5 h2 => zw_k (zw_lA h2 (ztb hM rfl) (fun z7 h3 => zw_k (zw_lA h3 (ztb hM rfl) (fun z9 h4 => zw_l (fun v10 => hK2 _ _ _ h4))))))))
def mX0_findDistances_2 : Nat := 0xe0000000000000000000000000000000000000000000000000000000000000000000000000000000000000000000000000000000000000000000000000000000000000000000000000000000000000000000000000000000000000000000000000000000000000000000000000000000000000000000000000000000000000000000000000000000000000000000000000000000000000000000000000000000000
theorem wX0_findDistances_2 {M : Nat} {z0 : St} {N : Nat}(hM : mX0_findDistances_2 &&& M = mX0_findDistances_2)  : ∀ (n : Nat) (y0 : Nat) (y1 : Int32) (z : St), zFr M z0 z → zPw M z0 (fX0_findDistances_2 N n y0 y1 z) := by
  intro n
  induction n with
  | zero => intro y0 y1 z h; exact zw_n
  | succ n ih => intro y0 y1 z h; exact wX0_findDistances_2b (ztr rfl hM)  (fun _ _ _ h => ih _ _ _ h) h
def mX0_findDistances : Nat := 0xe0000000000000000000000000000000000000000000000000000000000000000000000000000000000000000000000000000000000000000000000000000000000000000000000000000000000000000000000000000000000000000000000000000000000000000000000000000000000000000000000000000000000000000000000000000000000000000000000000000000000000000000000000000000000
theorem wX0_findDistances {M : Nat} {N : Nat} {x0 : Nat} {z0 z : St} (hM : mX0_findDistances &&& M = mX0_findDistances)  (h : zFr M z0 z) : zPw M z0 (fX0_findDistances N x0 z) := by
  unfold fX0_findDistances
  exact wX0_findDistances_2 (ztr rfl hM)  _ _ _ _ h
def mX0_portToll_45 : Nat := 0x0
theorem wX0_portToll_45 {M : Nat} {N : Nat} {K2 : Nat → Int32 → Int32 → Int32 → St → Option (Int32 × St)} {x0 : Nat} {x1 : Int32} {x2 : Int32} {x3 : Int32} {z0 z : St} (hM : mX0_portToll_45 &&& M = mX0_portToll_45)  (hK2 : ∀ a0 a1 a2 a3 a4, zFr M z0 a4 → zPw M z0 (K2 a0 a1 a2 a3 a4)) (h : zFr M z0 z) : zPw M z0 (fX0_portToll_45 N K2 x0 x1 x2 x3 z) := by
  unfold fX0_portToll_45
  exact zw_l (fun v1 => hK2 _ _ _ _ _ h)
def mX0_portToll_2b : Nat := 0x0
theorem wX0_portToll_2b {M : Nat} {N : Nat} {K2 : Nat → Int32 → Int32 → Int32 → St → Option (Int32 × St)} {x0 : Nat} {x1 : Int32} {x2 : Int32} {x3 : Int32} {z0 z : St} (hM : mX0_portToll_2b &&& M = mX0_portToll_2b)  (hK2 : ∀ a0 a1 a2 a3 a4, zFr M z0 a4 → zPw M z0 (K2 a0 a1 a2 a3 a4)) (h : zFr M z0 z) : zPw M z0 (fX0_portToll_2b N K2 x0 x1 x2 x3 z) := by
  unfold fX0_portToll_2b
  exact zw_k (zw_i (zw_s h) (zw_k (zw_k (zw_l (fun v5 => zw_c (wX0_friendOf (ztr rfl hM)  h) (fun r6 z7 h1 => zw_i (wX0_portToll_45 (ztr rfl hM) hK2 h1) (zw_c (wX0_netOfEntry (ztr rfl hM)  h1) (fun r11 z12 h2 => zw_i (wX0_portToll_45 (ztr rfl hM) hK2 h2) (zw_c (wX0_tollOf (ztr rfl hM)  h2) (fun r16 z17 h3 => zw_s h3))))))))))
def mX0_portToll_2 : Nat := 0x0
theorem wX0_portToll_2 {M : Nat} {z0 : St} {N : Nat}(hM : mX0_portToll_2 &&& M = mX0_portToll_2)  : ∀ (n : Nat) (y0 : Nat) (y1 : Int32) (y2 : Int32) (y3 : Int32) (z : St), zFr M z0 z → zPw M z0 (fX0_portToll_2 N n y0 y1 y2 y3 z) := by
  intro n
  induction n with
  | zero => intro y0 y1 y2 y3 z h; exact zw_n
  | succ n ih => intro y0 y1 y2 y3 z h; exact wX0_portToll_2b (ztr rfl hM)  (fun _ _ _ _ _ h => ih _ _ _ _ _ h) h
def mX0_portToll : Nat := 0x0
theorem wX0_portToll {M : Nat} {N : Nat} {x0 : Nat} {x1 : Int32} {x2 : Int32} {z0 z : St} (hM : mX0_portToll &&& M = mX0_portToll)  (h : zFr M z0 z) : zPw M z0 (fX0_portToll N x0 x1 x2 z) := by
  unfold fX0_portToll
  exact wX0_portToll_2 (ztr rfl hM)  _ _ _ _ _ _ h
def mX0_setWay : Nat := 0x1c000000000000000000000000000000000000000000000000000000000000000000000000000000000000000000000000000000000000000000000000000000000000000000000000000000000000000000000000000000000000000000000000000000000000000000000000000000000000000000000000000000000000000000000000000000000000000000000000000000000000000000000000000000000
theorem wX0_setWay {M : Nat} {N : Nat} {x0 : Nat} {x1 : Int32} {x2 : Int32} {x3 : Int32} {x4 : Int32} {z0 z : St} (hM : mX0_setWay &&& M = mX0_setWay)  (h : zFr M z0 z) : zPw M z0 (fX0_setWay N x0 x1 x2 x3 x4 z) := by
  unfold fX0_setWay
  exact zw_k (zw_lA h (ztb hM rfl) (fun z2 h1 => zw_k (zw_lA h1 (ztb hM rfl) (fun z4 h2 => zw_k (zw_lA h2 (ztb hM rfl) (fun z6 h3 => zw_s h3))))))
def mX0_findFarWay_108 : Nat := 0x0
theorem wX0_findFarWay_108 {M : Nat} {N : Nat} {K8 : Nat → Int32 → Int32 → Int32 → Int32 → St → Option (Int32 × St)} {x0 : Nat} {x1 : Int32} {x2 : Int32} {x3 : Int32} {x4 : Int32} {z0 z : St} (hM : mX0_findFarWay_108 &&& M = mX0_findFarWay_108)  (hK8 : ∀ a0 a1 a2 a3 a4 a5, zFr M z0 a5 → zPw M z0 (K8 a0 a1 a2 a3 a4 a5)) (h : zFr M z0 z) : zPw M z0 (fX0_findFarWay_108 N K8 x0 x1 x2 x3 x4 z) := by
  unfold fX0_findFarWay_108
  exact zw_l (fun v1 => hK8 _ _ _ _ _ _ h)
def mX0_findFarWay_96 : Nat := 0x0
theorem wX0_findFarWay_96 {M : Nat} {N : Nat} {K8 : Nat → Int32 → Int32 → Int32 → Int32 → St → Option (Int32 × St)} {x0 : Nat} {x1 : Int32} {x4 : Int32} {x5 : Int32} {s0 : Int32} {z0 z : St} (hM : mX0_findFarWay_96 &&& M = mX0_findFarWay_96)  (hK8 : ∀ a0 a1 a2 a3 a4 a5, zFr M z0 a5 → zPw M z0 (K8 a0 a1 a2 a3 a4 a5)) (h : zFr M z0 z) : zPw M z0 (fX0_findFarWay_96 N K8 x0 x1 x4 x5 s0 z) := by
  unfold fX0_findFarWay_96
  exact zw_k (zw_l (fun v2 => wX0_findFarWay_108 (ztr rfl hM) hK8 h))
def mX0_findFarWay_8b : Nat := 0x1c000000000000000000000000000000000000000000000000000000000000000000000000000000000000000000000000000000000000000000000000000000000000000000000000000000000000000000000000000000000000000000000000000000000000000000000000000000000000000000000000000000000000000000000000000000000000000000000000000000000000000000000000000000000
theorem wX0_findFarWay_8b {M : Nat} {N : Nat} {K8 : Nat → Int32 → Int32 → Int32 → Int32 → St → Option (Int32 × St)} {x0 : Nat} {x1 : Int32} {x2 : Int32} {x3 : Int32} {x4 : Int32} {z0 z : St} (hM : mX0_findFarWay_8b &&& M = mX0_findFarWay_8b)  (hK8 : ∀ a0 a1 a2 a3 a4 a5, zFr M z0 a5 → zPw M z0 (K8 a0 a1 a2 a3 a4 a5)) (h : zFr M z0 z) : zPw M z0 (fX0_findFarWay_8b N K8 x0 x1 x2 x3 x4 z) := by
  unfold fX0_findFarWay_8b
  exact zw_i (zw_i (zw_c (wX0_setWay (ztr rfl hM)  h) (fun _ z4 h1 => zw_s h1)) (zw_c (wX0_setWay (ztr rfl hM)  h) (fun _ z8 h2 => zw_s h2))) (zw_k (zw_i (zw_c (wX0_portToll (ztr rfl hM)  h) (fun r13 z14 h3 => zw_i (wX0_findFarWay_108 (ztr rfl hM) hK8 h3) (zw_k (zw_i (zw_k (zw_i (zw_k (wX0_findFarWay_96 (ztr rfl hM) hK8 h3)) (zw_k (wX0_findFarWay_96 (ztr rfl hM) hK8 h3)))) (wX0_findFarWay_108 (ztr rfl hM) hK8 h3))))) (wX0_findFarWay_108 (ztr rfl hM) hK8 h)))
def mX0_findFarWay_8 : Nat := 0x1c000000000000000000000000000000000000000000000000000000000000000000000000000000000000000000000000000000000000000000000000000000000000000000000000000000000000000000000000000000000000000000000000000000000000000000000000000000000000000000000000000000000000000000000000000000000000000000000000000000000000000000000000000000000
theorem wX0_findFarWay_8 {M : Nat} {z0 : St} {N : Nat}(hM : mX0_findFarWay_8 &&& M = mX0_findFarWay_8)  : ∀ (n : Nat) (y0 : Nat) (y1 : Int32) (y2 : Int32) (y3 : Int32) (y4 : Int32) (z : St), zFr M z0 z → zPw M z0 (fX0_findFarWay_8 N n y0 y1 y2 y3 y4 z) := by
  intro n
  induction n with
  | zero => intro y0 y1 y2 y3 y4 z h; exact zw_n
  | succ n ih => intro y0 y1 y2 y3 y4 z h; exact wX0_findFarWay_8b (ztr rfl hM)  (fun _ _ _ _ _ _ h => ih _ _ _ _ _ _ h) h
def mX0_findFarWay : Nat := 0x1c000000000000000000000000000000000000000000000000000000000000000000000000000000000000000000000000000000000000000000000000000000000000000000000000000000000000000000000000000000000000000000000000000000000000000000000000000000000000000000000000000000000000000000000000000000000000000000000000000000000000000000000000000000000
theorem wX0_findFarWay {M : Nat} {N : Nat} {x0 : Nat} {x1 : Int32} {z0 z : St} (hM : mX0_findFarWay &&& M = mX0_findFarWay)  (h : zFr M z0 z) : zPw M z0 (fX0_findFarWay N x0 x1 z) := by
  unfold fX0_findFarWay
  exact wX0_findFarWay_8 (ztr rfl hM)  _ _ _ _ _ _ _ h
def mX1_portOn_2b : Nat := 0x0
theorem wX1_portOn_2b {M : Nat} {N : Nat} {K2 : Nat → Int32 → Int32 → St → Option (Option Nat × St)} {x0 : Nat} {x1 : Int32} {x2 : Int32} {z0 z : St} (hM : mX1_portOn_2b &&& M = mX1_portOn_2b)  (hK2 : ∀ a0 a1 a2 a3, zFr M z0 a3 → zPw M z0 (K2 a0 a1 a2 a3)) (h : zFr M z0 z) : zPw M z0 (fX1_portOn_2b N K2 x0 x1 x2 z) := by
  unfold fX1_portOn_2b
  exact zw_i (zw_s h) (zw_k (zw_l (fun y3 => zw_d (fun a4 => zw_l (fun y5 => zw_d (fun a6 => zw_i (zw_l (fun v8 => hK2 _ _ _ _ h)) (zw_k (zw_l (fun y10 => zw_s h)))))))))
def mX1_portOn_2 : Nat := 0x0
theorem wX1_portOn_2 {M : Nat} {z0 : St} {N : Nat}(hM : mX1_portOn_2 &&& M = mX1_portOn_2)  : ∀ (n : Nat) (y0 : Nat) (y1 : Int32) (y2 : Int32) (z : St), zFr M z0 z → zPw M z0 (fX1_portOn_2 N n y0 y1 y2 z) := by
  intro n
  induction n with
  | zero => intro y0 y1 y2 z h; exact zw_n
  | succ n ih => intro y0 y1 y2 z h; exact wX1_portOn_2b (ztr rfl hM)  (fun _ _ _ _ h => ih _ _ _ _ h) h
def mX1_portOn : Nat := 0x0
theorem wX1_portOn {M : Nat} {N : Nat} {x0 : Nat} {x1 : Int32} {z0 z : St} (hM : mX1_portOn &&& M = mX1_portOn)  (h : zFr M z0 z) : zPw M z0 (fX1_portOn N x0 x1 z) := by
  unfold fX1_portOn
  exact wX1_portOn_2 (ztr rfl hM)  _ _ _ _ _ h
def mX0_findWays_62 : Nat := 0x0
theorem wX0_findWays_62 {M : Nat} {N : Nat} {K11 : Nat → Nat → Int32 → Int32 → St → Option (Int32 × St)} {x0 : Nat} {x1 : Nat} {x2 : Int32} {x3 : Int32} {z0 z : St} (hM : mX0_findWays_62 &&& M = mX0_findWays_62)  (hK11 : ∀ a0 a1 a2 a3 a4, zFr M z0 a4 → zPw M z0 (K11 a0 a1 a2 a3 a4)) (h : zFr M z0 z) : zPw M z0 (fX0_findWays_62 N K11 x0 x1 x2 x3 z) := by
  unfold fX0_findWays_62
  exact zw_l (fun v1 => hK11 _ _ _ _ _ h)
def mX0_findWays_57 : Nat := 0x1c000000000000000000000000000000000000000000000000000000000000000000000000000000000000000000000000000000000000000000000000000000000000000000000000000000000000000000000000000000000000000000000000000000000000000000000000000000000000000000000000000000000000000000000000000000000000000000000000000000000000000000000000000000000
theorem wX0_findWays_57 {M : Nat} {N : Nat} {K11 : Nat → Nat → Int32 → Int32 → St → Option (Int32 × St)} {x0 : Nat} {x1 : Nat} {x2 : Int32} {x3 : Int32} {z0 z : St} (hM : mX0_findWays_57 &&& M = mX0_findWays_57)  (hK11 : ∀ a0 a1 a2 a3 a4, zFr M z0 a4 → zPw M z0 (K11 a0 a1 a2 a3 a4)) (h : zFr M z0 z) : zPw M z0 (fX0_findWays_57 N K11 x0 x1 x2 x3 z) := by
  unfold fX0_findWays_57
  exact zw_c (wX0_findFarWay (ztr rfl hM)  h) (fun _ z2 h1 => wX0_findWays_62 (ztr rfl hM) hK11 h1)
def mX0_findWays_11b : Nat := 0x1c000000000000000000000000000000000000000000000000000000000000000000000000000000000000000000000000000000000000000000000000000000000000000000000000000000000000000000000000000000000000000000000000000000000000000000000000000000000000000000000000000000000000000000000000000000000000000000000000000000000000000000000000000000000
theorem wX0_findWays_11b {M : Nat} {N : Nat} {K11 : Nat → Nat → Int32 → Int32 → St → Option (Int32 × St)} {x0 : Nat} {x1 : Nat} {x2 : Int32} {x3 : Int32} {z0 z : St} (hM : mX0_findWays_11b &&& M = mX0_findWays_11b)  (hK11 : ∀ a0 a1 a2 a3 a4, zFr M z0 a4 → zPw M z0 (K11 a0 a1 a2 a3 a4)) (h : zFr M z0 z) : zPw M z0 (fX0_findWays_11b N K11 x0 x1 x2 x3 z) := by
  unfold fX0_findWays_11b
  exact zw_i (zw_s h) (zw_c (wX1_portOn (ztr rfl hM)  h) (fun r2 z3 h1 => zw_o (wX0_findWays_57 (ztr rfl hM) hK11 h1) (fun a7 => zw_l (fun y8 => zw_d (fun a9 => zw_i (wX0_findWays_57 (ztr rfl hM) hK11 h1) (zw_c (wX0_setWay (ztr rfl hM)  h1) (fun _ z12 h2 => wX0_findWays_62 (ztr rfl hM) hK11 h2)))))))
def mX0_findWays_11 : Nat := 0x1c000000000000000000000000000000000000000000000000000000000000000000000000000000000000000000000000000000000000000000000000000000000000000000000000000000000000000000000000000000000000000000000000000000000000000000000000000000000000000000000000000000000000000000000000000000000000000000000000000000000000000000000000000000000
theorem wX0_findWays_11 {M : Nat} {z0 : St} {N : Nat}(hM : mX0_findWays_11 &&& M = mX0_findWays_11)  : ∀ (n : Nat) (y0 : Nat) (y1 : Nat) (y2 : Int32) (y3 : Int32) (z : St), zFr M z0 z → zPw M z0 (fX0_findWays_11 N n y0 y1 y2 y3 z) := by
  intro n
  induction n with
  | zero => intro y0 y1 y2 y3 z h; exact zw_n
  | succ n ih => intro y0 y1 y2 y3 z h; exact wX0_findWays_11b (ztr rfl hM)  (fun _ _ _ _ _ h => ih _ _ _ _ _ h) h
def mX0_findWays : Nat := 0xfc000000000000000000000000000000000000000000000000000000000000000000000000000000000000000000000000000000000000000000000000000000000000000000000000000000000000000000000000000000000000000000000000000000000000000000000000000000000000000000000000000000000000000000000000000000000000000000000000000000000000000000000000000000200
theorem wX0_findWays {M : Nat} {N : Nat} {x0 : Nat} {x1 : Nat} {x2 : Int32} {z0 z : St} (hM : mX0_findWays &&& M = mX0_findWays)  (h : zFr M z0 z) : zPw M z0 (fX0_findWays N x0 x1 x2 z) := by
  unfold fX0_findWays
  exact zw_lI h (ztb hM rfl) (fun z1 h1 => zw_c (wX0_findDistances (ztr rfl hM)  h1) (fun _ z3 h2 => wX0_findWays_11 (ztr rfl hM)  _ _ _ _ _ _ h2))
def mX1_nextNumber : Nat := 0x200000000000000000000000000000000000000000000000000000000000000000000000000000000000000000000000000000000000000000000000000000000000000000000000000000000000000000000000000000000000000000000000000000000000000000000000000000000000000000000000000000000000000000000000000000000000000000000000000000000000000000000000000000000000
theorem wX1_nextNumber {M : Nat} {N : Nat} {x0 : Nat} {z0 z : St} (hM : mX1_nextNumber &&& M = mX1_nextNumber)  (h : zFr M z0 z) : zPw M z0 (fX1_nextNumber N x0 z) := by
  unfold fX1_nextNumber
  exact zw_k (zw_k (zw_lA h (ztb hM rfl) (fun z3 h1 => zw_k (zw_s h1))))
def mX1_hasAddress_2b : Nat := 0x0
theorem wX1_hasAddress_2b {M : Nat} {N : Nat} {K2 : Nat → Int32 → Int32 → St → Option (Int32 × St)} {x0 : Nat} {x1 : Int32} {x2 : Int32} {z0 z : St} (hM : mX1_hasAddress_2b &&& M = mX1_hasAddress_2b)  (hK2 : ∀ a0 a1 a2 a3, zFr M z0 a3 → zPw M z0 (K2 a0 a1 a2 a3)) (h : zFr M z0 z) : zPw M z0 (fX1_hasAddress_2b N K2 x0 x1 x2 z) := by
  unfold fX1_hasAddress_2b
  exact zw_i (zw_s h) (zw_k (zw_l (fun y3 => zw_d (fun a4 => zw_i (zw_l (fun v6 => hK2 _ _ _ _ h)) (zw_s h)))))
def mX1_hasAddress_2 : Nat := 0x0
theorem wX1_hasAddress_2 {M : Nat} {z0 : St} {N : Nat}(hM : mX1_hasAddress_2 &&& M = mX1_hasAddress_2)  : ∀ (n : Nat) (y0 : Nat) (y1 : Int32) (y2 : Int32) (z : St), zFr M z0 z → zPw M z0 (fX1_hasAddress_2 N n y0 y1 y2 z) := by
  intro n
  induction n with
  | zero => intro y0 y1 y2 z h; exact zw_n
  | succ n ih => intro y0 y1 y2 z h; exact wX1_hasAddress_2b (ztr rfl hM)  (fun _ _ _ _ h => ih _ _ _ _ h) h
def mX1_hasAddress : Nat := 0x0
theorem wX1_hasAddress {M : Nat} {N : Nat} {x0 : Nat} {x1 : Int32} {z0 z : St} (hM : mX1_hasAddress &&& M = mX1_hasAddress)  (h : zFr M z0 z) : zPw M z0 (fX1_hasAddress N x0 x1 z) := by
  unfold fX1_hasAddress
  exact wX1_hasAddress_2 (ztr rfl hM)  _ _ _ _ _ h
def mX1_netsUp_44 : Nat := 0x0
theorem wX1_netsUp_44 {M : Nat} {N : Nat} {K4 : Nat → Int32 → Int32 → St → Option (Int32 × St)} {x0 : Nat} {x1 : Int32} {x2 : Int32} {z0 z : St} (hM : mX1_netsUp_44 &&& M = mX1_netsUp_44)  (hK4 : ∀ a0 a1 a2 a3, zFr M z0 a3 → zPw M z0 (K4 a0 a1 a2 a3)) (h : zFr M z0 z) : zPw M z0 (fX1_netsUp_44 N K4 x0 x1 x2 z) := by
  unfold fX1_netsUp_44
  exact zw_l (fun v1 => hK4 _ _ _ _ h)
def mX1_netsUp_4b : Nat := 0x0
theorem wX1_netsUp_4b {M : Nat} {N : Nat} {K4 : Nat → Int32 → Int32 → St → Option (Int32 × St)} {x0 : Nat} {x1 : Int32} {x2 : Int32} {z0 z : St} (hM : mX1_netsUp_4b &&& M = mX1_netsUp_4b)  (hK4 : ∀ a0 a1 a2 a3, zFr M z0 a3 → zPw M z0 (K4 a0 a1 a2 a3)) (h : zFr M z0 z) : zPw M z0 (fX1_netsUp_4b N K4 x0 x1 x2 z) := by
  unfold fX1_netsUp_4b
  exact zw_i (zw_s h) (zw_k (zw_l (fun y3 => zw_d (fun a4 => zw_l (fun y5 => zw_d (fun a6 => zw_i (wX1_netsUp_44 (ztr rfl hM) hK4 h) (zw_k (zw_l (fun y9 => zw_d (fun a10 => zw_l (fun y11 => zw_d (fun a12 => zw_l (fun v13 => wX1_netsUp_44 (ztr rfl hM) hK4 h)))))))))))))
def mX1_netsUp_4 : Nat := 0x0
theorem wX1_netsUp_4 {M : Nat} {z0 : St} {N : Nat}(hM : mX1_netsUp_4 &&& M = mX1_netsUp_4)  : ∀ (n : Nat) (y0 : Nat) (y1 : Int32) (y2 : Int32) (z : St), zFr M z0 z → zPw M z0 (fX1_netsUp_4 N n y0 y1 y2 z) := by
  intro n
  induction n with
  | zero => intro y0 y1 y2 z h; exact zw_n
  | succ n ih => intro y0 y1 y2 z h; exact wX1_netsUp_4b (ztr rfl hM)  (fun _ _ _ _ h => ih _ _ _ _ h) h
def mX1_netsUp : Nat := 0x0
theorem wX1_netsUp {M : Nat} {N : Nat} {x0 : Nat} {z0 z : St} (hM : mX1_netsUp &&& M = mX1_netsUp)  (h : zFr M z0 z) : zPw M z0 (fX1_netsUp N x0 z) := by
  unfold fX1_netsUp
  exact wX1_netsUp_4 (ztr rfl hM)  _ _ _ _ _ h
def mX1_partialFor_72 : Nat := 0x0
theorem wX1_partialFor_72 {M : Nat} {N : Nat} {K2 : Nat → Nat → Int32 → St → Option (Int32 × St)} {x0 : Nat} {x1 : Nat} {x2 : Int32} {z0 z : St} (hM : mX1_partialFor_72 &&& M = mX1_partialFor_72)  (hK2 : ∀ a0 a1 a2 a3, zFr M z0 a3 → zPw M z0 (K2 a0 a1 a2 a3)) (h : zFr M z0 z) : zPw M z0 (fX1_partialFor_72 N K2 x0 x1 x2 z) := by
  unfold fX1_partialFor_72
  exact zw_l (fun v1 => hK2 _ _ _ _ h)
def mX1_partialFor_2b : Nat := 0x0
theorem wX1_partialFor_2b {M : Nat} {N : Nat} {K2 : Nat → Nat → Int32 → St → Option (Int32 × St)} {x0 : Nat} {x1 : Nat} {x2 : Int32} {z0 z : St} (hM : mX1_partialFor_2b &&& M = mX1_partialFor_2b)  (hK2 : ∀ a0 a1 a2 a3, zFr M z0 a3 → zPw M z0 (K2 a0 a1 a2 a3)) (h : zFr M z0 z) : zPw M z0 (fX1_partialFor_2b N K2 x0 x1 x2 z) := by
  unfold fX1_partialFor_2b
  exact zw_i (zw_s h) (zw_k (zw_l (fun y3 => zw_k (zw_i (wX1_partialFor_72 (ztr rfl hM) hK2 h) (zw_d (fun a6 => zw_i (wX1_partialFor_72 (ztr rfl hM) hK2 h) (zw_i (zw_i (wX1_partialFor_72 (ztr rfl hM) hK2 h) (zw_i (wX1_partialFor_72 (ztr rfl hM) hK2 h) (zw_s h))) (wX1_partialFor_72 (ztr rfl hM) hK2 h))))))))
def mX1_partialFor_2 : Nat := 0x0
theorem wX1_partialFor_2 {M : Nat} {z0 : St} {N : Nat}(hM : mX1_partialFor_2 &&& M = mX1_partialFor_2)  : ∀ (n : Nat) (y0 : Nat) (y1 : Nat) (y2 : Int32) (z : St), zFr M z0 z → zPw M z0 (fX1_partialFor_2 N n y0 y1 y2 z) := by
  intro n
  induction n with
  | zero => intro y0 y1 y2 z h; exact zw_n
  | succ n ih => intro y0 y1 y2 z h; exact wX1_partialFor_2b (ztr rfl hM)  (fun _ _ _ _ h => ih _ _ _ _ h) h
def mX1_partialFor : Nat := 0x0
theorem wX1_partialFor {M : Nat} {N : Nat} {x0 : Nat} {x1 : Nat} {z0 z : St} (hM : mX1_partialFor &&& M = mX1_partialFor)  (h : zFr M z0 z) : zPw M z0 (fX1_partialFor N x0 x1 z) := by
  unfold fX1_partialFor
  exact wX1_partialFor_2 (ztr rfl hM)  _ _ _ _ _ h
def mX1_emptyPartial_2b : Nat := 0x0
theorem wX1_emptyPartial_2b {M : Nat} {N : Nat} {K2 : Nat → Int32 → St → Option (Int32 × St)} {x0 : Nat} {x1 : Int32} {z0 z : St} (hM : mX1_emptyPartial_2b &&& M = mX1_emptyPartial_2b)  (hK2 : ∀ a0 a1 a2, zFr M z0 a2 → zPw M z0 (K2 a0 a1 a2)) (h : zFr M z0 z) : zPw M z0 (fX1_emptyPartial_2b N K2 x0 x1 z) := by
  unfold fX1_emptyPartial_2b
  exact zw_i (zw_s h) (zw_k (zw_i (zw_l (fun v4 => hK2 _ _ _ h)) (zw_s h)))
def mX1_emptyPartial_2 : Nat := 0x0
theorem wX1_emptyPartial_2 {M : Nat} {z0 : St} {N : Nat}(hM : mX1_emptyPartial_2 &&& M = mX1_emptyPartial_2)  : ∀ (n : Nat) (y0 : Nat) (y1 : Int32) (z : St), zFr M z0 z → zPw M z0 (fX1_emptyPartial_2 N n y0 y1 z) := by
  intro n
  induction n with
  | zero => intro y0 y1 z h; exact zw_n
  | succ n ih => intro y0 y1 z h; exact wX1_emptyPartial_2b (ztr rfl hM)  (fun _ _ _ h => ih _ _ _ h) h
def mX1_emptyPartial : Nat := 0x0
theorem wX1_emptyPartial {M : Nat} {N : Nat} {x0 : Nat} {z0 z : St} (hM : mX1_emptyPartial &&& M = mX1_emptyPartial)  (h : zFr M z0 z) : zPw M z0 (fX1_emptyPartial N x0 z) := by
  unfold fX1_emptyPartial
  exact wX1_emptyPartial_2 (ztr rfl hM)  _ _ _ _ h
def mX1_earliestPartial_26 : Nat := 0x0
theorem wX1_earliestPartial_26 {M : Nat} {N : Nat} {K4 : Nat → Int32 → Int32 → St → Option (Int32 × St)} {x0 : Nat} {x1 : Int32} {x2 : Int32} {z0 z : St} (hM : mX1_earliestPartial_26 &&& M = mX1_earliestPartial_26)  (hK4 : ∀ a0 a1 a2 a3, zFr M z0 a3 → zPw M z0 (K4 a0 a1 a2 a3)) (h : zFr M z0 z) : zPw M z0 (fX1_earliestPartial_26 N K4 x0 x1 x2 z) := by
  unfold fX1_earliestPartial_26
  exact zw_l (fun v1 => hK4 _ _ _ _ h)
def mX1_earliestPartial_4b : Nat := 0x0
theorem wX1_earliestPartial_4b {M : Nat} {N : Nat} {K4 : Nat → Int32 → Int32 → St → Option (Int32 × St)} {x0 : Nat} {x1 : Int32} {x2 : Int32} {z0 z : St} (hM : mX1_earliestPartial_4b &&& M = mX1_earliestPartial_4b)  (hK4 : ∀ a0 a1 a2 a3, zFr M z0 a3 → zPw M z0 (K4 a0 a1 a2 a3)) (h : zFr M z0 z) : zPw M z0 (fX1_earliestPartial_4b N K4 x0 x1 x2 z) := by
  unfold fX1_earliestPartial_4b
  exact zw_i (zw_s h) (zw_k (zw_k (zw_i (wX1_earliestPartial_26 (ztr rfl hM) hK4 h) (wX1_earliestPartial_26 (ztr rfl hM) hK4 h))))
def mX1_earliestPartial_4 : Nat := 0x0
theorem wX1_earliestPartial_4 {M : Nat} {z0 : St} {N : Nat}(hM : mX1_earliestPartial_4 &&& M = mX1_earliestPartial_4)  : ∀ (n : Nat) (y0 : Nat) (y1 : Int32) (y2 : Int32) (z : St), zFr M z0 z → zPw M z0 (fX1_earliestPartial_4 N n y0 y1 y2 z) := by
  intro n
  induction n with
  | zero => intro y0 y1 y2 z h; exact zw_n
  | succ n ih => intro y0 y1 y2 z h; exact wX1_earliestPartial_4b (ztr rfl hM)  (fun _ _ _ _ h => ih _ _ _ _ h) h
def mX1_earliestPartial : Nat := 0x0
theorem wX1_earliestPartial {M : Nat} {N : Nat} {x0 : Nat} {z0 z : St} (hM : mX1_earliestPartial &&& M = mX1_earliestPartial)  (h : zFr M z0 z) : zPw M z0 (fX1_earliestPartial N x0 z) := by
  unfold fX1_earliestPartial
  exact wX1_earliestPartial_4 (ztr rfl hM)  _ _ _ _ _ h
def mX7_copyPart : Nat := 0x200000000000000000000000000000000000000000000000000000000000000000000000000000000000000000000000000000000000000000000000000000000000000000000000000000000000000000000000000000000000000000000000000000000000000000006ff0000000000000000000000000000000000000000000000000000000000000000000000000000000000000000000000000000000000000000
theorem wX7_copyPart {M : Nat} {N : Nat} {x0 : Nat} {x1 : Nat} {x2 : Int32} {x3 : Int32} {z0 z : St} (hM : mX7_copyPart &&& M = mX7_copyPart)  (h : zFr M z0 z) : zPw M z0 (fX7_copyPart N x0 x1 x2 x3 z) := by
  unfold fX7_copyPart
  exact zw_lI h (ztb hM rfl) (fun z1 h1 => zw_lI h1 (ztb hM rfl) (fun z2 h2 => zw_lI h2 (ztb hM rfl) (fun z3 h3 => zw_lI h3 (ztb hM rfl) (fun z4 h4 => zw_lI h4 (ztb hM rfl) (fun z5 h5 => zw_lI h5 (ztb hM rfl) (fun z6 h6 => zw_lI h6 (ztb hM rfl) (fun z7 h7 => zw_lI h7 (ztb hM rfl) (fun z8 h8 => zw_lI h8 (ztb hM rfl) (fun z9 h9 => zw_lI h9 (ztb hM rfl) (fun z10 h10 => zw_i (zw_s h10) (zw_i (zw_s h10) (zw_i (zw_s h10) (zw_q (zw_lC h10 (ztb hM rfl) (fun z15 h11 => zw_s h11)))))))))))))))
def mX1_beginPartial_34b : Nat := 0x7000000000000000000000000000000000000000000000000000000000000000000000000000000000000000000000000000000000000000000000000000000000000000000000000000000000000000000000000000000000000000000000000000000000000000000000000000000000000000000000000000000000000000000000000000000000000000000000000000000000000000002000000000000000000
theorem wX1_beginPartial_34b {M : Nat} {N : Nat} {K34 : Nat → Int32 → Int32 → Int32 → St → Option (Int32 × St)} {x0 : Nat} {x1 : Int32} {x3 : Int32} {x5 : Int32} {z0 z : St} (hM : mX1_beginPartial_34b &&& M = mX1_beginPartial_34b)  (hK34 : ∀ a0 a1 a2 a3 a4, zFr M z0 a4 → zPw M z0 (K34 a0 a1 a2 a3 a4)) (h : zFr M z0 z) : zPw M z0 (fX1_beginPartial_34b N K34 x0 x1 x3 x5 z) := by
  unfold fX1_beginPartial_34b
  exact zw_i (zw_k (zw_lA h (ztb hM rfl) (fun z3 h1 => zw_lI h1 (ztb hM rfl) (fun z4 h2 => zw_k (zw_lA h2 (ztb hM rfl) (fun z6 h3 => zw_s h3)))))) (zw_k (zw_k (zw_lL h (ztb hM rfl) (fun z9 h4 => zw_l (fun v10 => hK34 _ _ _ _ _ h4)))))
def mX1_beginPartial_34 : Nat := 0x7000000000000000000000000000000000000000000000000000000000000000000000000000000000000000000000000000000000000000000000000000000000000000000000000000000000000000000000000000000000000000000000000000000000000000000000000000000000000000000000000000000000000000000000000000000000000000000000000000000000000000002000000000000000000
theorem wX1_beginPartial_34 {M : Nat} {z0 : St} {N : Nat}(hM : mX1_beginPartial_34 &&& M = mX1_beginPartial_34)  : ∀ (n : Nat) (y0 : Nat) (y1 : Int32) (y2 : Int32) (y3 : Int32) (z : St), zFr M z0 z → zPw M z0 (fX1_beginPartial_34 N n y0 y1 y2 y3 z) := by
  intro n
  induction n with
  | zero => intro y0 y1 y2 y3 z h; exact zw_n
  | succ n ih => intro y0 y1 y2 y3 z h; exact wX1_beginPartial_34b (ztr rfl hM)  (fun _ _ _ _ _ h => ih _ _ _ _ _ h) h
def mX1_beginPartial : Nat := 0x207000000000000000000000000000000000000000000000000000000000000000000000000000000000000000000000000000000000000000000000000000000000000000000000000000000000000000000000000000000000000000000000000000000000000000006ff0000000000000000000000000000000000000000000000000000000000000000000000000000000000000000000002000000000000000000
theorem wX1_beginPartial {M : Nat} {N : Nat} {x0 : Nat} {x1 : Int32} {x2 : Nat} {x3 : Int32} {z0 z : St} (hM : mX1_beginPartial &&& M = mX1_beginPartial)  (h : zFr M z0 z) : zPw M z0 (fX1_beginPartial N x0 x1 x2 x3 z) := by
  unfold fX1_beginPartial
  exact zw_k (zw_l (fun y2 => zw_d (fun a3 => zw_c (wX7_copyPart (ztr rfl hM)  h) (fun _ z5 h1 => zw_lI h1 (ztb hM rfl) (fun z8 h2 => zw_lI h2 (ztb hM rfl) (fun z9 h3 => wX1_beginPartial_34 (ztr rfl hM)  _ _ _ _ _ _ h3))))))
def mJ13_bitCount_95d88 : Nat := 0x0
theorem wJ13_bitCount_95d88 {M : Nat} {N : Nat} {x0 : Int64} {z0 z : St} (hM : mJ13_bitCount_95d88 &&& M = mJ13_bitCount_95d88)  (h : zFr M z0 z) : zPw M z0 (fJ13_bitCount_95d88 N x0 z) := by
  unfold fJ13_bitCount_95d88
  exact zw_l (fun v1 => zw_l (fun v2 => zw_l (fun v3 => zw_l (fun v4 => zw_l (fun v5 => zw_l (fun v6 => zw_s h))))))
def mX1_addPiece_135 : Nat := 0x0
theorem wX1_addPiece_135 {M : Nat} {N : Nat} {K41 : Nat → Int32 → Nat → Nat → Int32 → Int32 → St → Option (Int32 × St)} {x0 : Nat} {x1 : Int32} {x2 : Nat} {x3 : Nat} {x4 : Int32} {x5 : Int32} {z0 z : St} (hM : mX1_addPiece_135 &&& M = mX1_addPiece_135)  (hK41 : ∀ a0 a1 a2 a3 a4 a5 a6, zFr M z0 a6 → zPw M z0 (K41 a0 a1 a2 a3 a4 a5 a6)) (h : zFr M z0 z) : zPw M z0 (fX1_addPiece_135 N K41 x0 x1 x2 x3 x4 x5 z) := by
  unfold fX1_addPiece_135
  exact zw_l (fun v1 => hK41 _ _ _ _ _ _ _ h)
def mX1_addPiece_147b : Nat := 0x0
theorem wX1_addPiece_147b {M : Nat} {N : Nat} {K147 : Nat → Int32 → Nat → Int32 → Int32 → St → Option (Int32 × St)} {x0 : Nat} {x1 : Int32} {x3 : Nat} {x5 : Int32} {x6 : Int32} {z0 z : St} (hM : mX1_addPiece_147b &&& M = mX1_addPiece_147b)  (hK147 : ∀ a0 a1 a2 a3 a4 a5, zFr M z0 a5 → zPw M z0 (K147 a0 a1 a2 a3 a4 a5)) (h : zFr M z0 z) : zPw M z0 (fX1_addPiece_147b N K147 x0 x1 x3 x5 x6 z) := by
  unfold fX1_addPiece_147b
  exact zw_i (zw_i (zw_s h) (zw_s h)) (zw_k (zw_k (zw_c (wJ13_bitCount_95d88 (ztr rfl hM)  h) (fun r5 z6 h1 => zw_l (fun v9 => zw_l (fun v10 => hK147 _ _ _ _ _ _ h1))))))
def mX1_addPiece_147 : Nat := 0x0
theorem wX1_addPiece_147 {M : Nat} {z0 : St} {N : Nat}(hM : mX1_addPiece_147 &&& M = mX1_addPiece_147)  : ∀ (n : Nat) (y0 : Nat) (y1 : Int32) (y2 : Nat) (y3 : Int32) (y4 : Int32) (z : St), zFr M z0 z → zPw M z0 (fX1_addPiece_147 N n y0 y1 y2 y3 y4 z) := by
  intro n
  induction n with
  | zero => intro y0 y1 y2 y3 y4 z h; exact zw_n
  | succ n ih => intro y0 y1 y2 y3 y4 z h; exact wX1_addPiece_147b (ztr rfl hM)  (fun _ _ _ _ _ _ h => ih _ _ _ _ _ _ h) h
def mX1_addPiece_41b : Nat := 0x201000000000000000000000000000000000000000000000000000000000000000000000000000000000000000000000000000000000000000000000000000000000000000000000000000000000000000000000000000000000000000000000000000000000000000000000000000000000000000000000000000000000000000000000000000000000000000000000000000000000000000000000000000000000000
theorem wX1_addPiece_41b {M : Nat} {N : Nat} {K41 : Nat → Int32 → Nat → Nat → Int32 → Int32 → St → Option (Int32 × St)} {x0 : Nat} {x1 : Int32} {x2 : Nat} {x3 : Nat} {x4 : Int32} {x5 : Int32} {z0 z : St} (hM : mX1_addPiece_41b &&& M = mX1_addPiece_41b)  (hK41 : ∀ a0 a1 a2 a3 a4 a5 a6, zFr M z0 a6 → zPw M z0 (K41 a0 a1 a2 a3 a4 a5 a6)) (h : zFr M z0 z) : zPw M z0 (fX1_addPiece_41b N K41 x0 x1 x2 x3 x4 x5 z) := by
  unfold fX1_addPiece_41b
  exact zw_i (wX1_addPiece_147 (ztr rfl hM)  _ _ _ _ _ _ _ h) (zw_l (fun v2 => zw_k (zw_k (zw_i (zw_k (zw_k (zw_k (zw_lL h (ztb hM rfl) (fun z9 h1 => zw_q (zw_lC h1 (ztb hM rfl) (fun z11 h2 => wX1_addPiece_135 (ztr rfl hM) hK41 h2))))))) (wX1_addPiece_135 (ztr rfl hM) hK41 h)))))
def mX1_addPiece_41 : Nat := 0x201000000000000000000000000000000000000000000000000000000000000000000000000000000000000000000000000000000000000000000000000000000000000000000000000000000000000000000000000000000000000000000000000000000000000000000000000000000000000000000000000000000000000000000000000000000000000000000000000000000000000000000000000000000000000
theorem wX1_addPiece_41 {M : Nat} {z0 : St} {N : Nat}(hM : mX1_addPiece_41 &&& M = mX1_addPiece_41)  : ∀ (n : Nat) (y0 : Nat) (y1 : Int32) (y2 : Nat) (y3 : Nat) (y4 : Int32) (y5 : Int32) (z : St), zFr M z0 z → zPw M z0 (fX1_addPiece_41 N n y0 y1 y2 y3 y4 y5 z) := by
  intro n
  induction n with
  | zero => intro y0 y1 y2 y3 y4 y5 z h; exact zw_n
  | succ n ih => intro y0 y1 y2 y3 y4 y5 z h; exact wX1_addPiece_41b (ztr rfl hM)  (fun _ _ _ _ _ _ _ h => ih _ _ _ _ _ _ _ h) h
def mX1_addPiece : Nat := 0x201000000000000000000000000000000000000000000000000000000000000000000000000000000000000000000000000000000000000000000000000000000000000000000000000000000000000000000000000000000000000000000000000000000000000000000000000000000000000000000000000000000000000000000000000000000000000000000000000000000000000000000000000000000000000
theorem wX1_addPiece {M : Nat} {N : Nat} {x0 : Nat} {x1 : Int32} {x2 : Nat} {z0 z : St} (hM : mX1_addPiece &&& M = mX1_addPiece)  (h : zFr M z0 z) : zPw M z0 (fX1_addPiece N x0 x1 x2 z) := by
  unfold fX1_addPiece
  exact zw_k (zw_l (fun y2 => zw_d (fun a3 => zw_l (fun v4 => zw_l (fun v5 => wX1_addPiece_41 (ztr rfl hM)  _ _ _ _ _ _ _ _ h)))))
def mX1_unusedDoor_2b : Nat := 0x0
theorem wX1_unusedDoor_2b {M : Nat} {N : Nat} {K2 : Nat → Int32 → St → Option (Int32 × St)} {x0 : Nat} {x1 : Int32} {z0 z : St} (hM : mX1_unusedDoor_2b &&& M = mX1_unusedDoor_2b)  (hK2 : ∀ a0 a1 a2, zFr M z0 a2 → zPw M z0 (K2 a0 a1 a2)) (h : zFr M z0 z) : zPw M z0 (fX1_unusedDoor_2b N K2 x0 x1 z) := by
  unfold fX1_unusedDoor_2b
  exact zw_i (zw_s h) (zw_k (zw_l (fun y3 => zw_d (fun a4 => zw_i (zw_l (fun v6 => hK2 _ _ _ h)) (zw_s h)))))
def mX1_unusedDoor_2 : Nat := 0x0
theorem wX1_unusedDoor_2 {M : Nat} {z0 : St} {N : Nat}(hM : mX1_unusedDoor_2 &&& M = mX1_unusedDoor_2)  : ∀ (n : Nat) (y0 : Nat) (y1 : Int32) (z : St), zFr M z0 z → zPw M z0 (fX1_unusedDoor_2 N n y0 y1 z) := by
  intro n
  induction n with
  | zero => intro y0 y1 z h; exact zw_n
  | succ n ih => intro y0 y1 z h; exact wX1_unusedDoor_2b (ztr rfl hM)  (fun _ _ _ h => ih _ _ _ h) h
def mX1_unusedDoor : Nat := 0x0
theorem wX1_unusedDoor {M : Nat} {N : Nat} {x0 : Nat} {z0 z : St} (hM : mX1_unusedDoor &&& M = mX1_unusedDoor)  (h : zFr M z0 z) : zPw M z0 (fX1_unusedDoor N x0 z) := by
  unfold fX1_unusedDoor
  exact wX1_unusedDoor_2 (ztr rfl hM)  _ _ _ _ h
def mX1_listenerAt_39 : Nat := 0x0
theorem wX1_listenerAt_39 {M : Nat} {N : Nat} {K2 : Nat → Int32 → Int32 → St → Option (Int32 × St)} {x0 : Nat} {x1 : Int32} {x2 : Int32} {z0 z : St} (hM : mX1_listenerAt_39 &&& M = mX1_listenerAt_39)  (hK2 : ∀ a0 a1 a2 a3, zFr M z0 a3 → zPw M z0 (K2 a0 a1 a2 a3)) (h : zFr M z0 z) : zPw M z0 (fX1_listenerAt_39 N K2 x0 x1 x2 z) := by
  unfold fX1_listenerAt_39
  exact zw_l (fun v1 => hK2 _ _ _ _ h)
def mX1_listenerAt_2b : Nat := 0x0
theorem wX1_listenerAt_2b {M : Nat} {N : Nat} {K2 : Nat → Int32 → Int32 → St → Option (Int32 × St)} {x0 : Nat} {x1 : Int32} {x2 : Int32} {z0 z : St} (hM : mX1_listenerAt_2b &&& M = mX1_listenerAt_2b)  (hK2 : ∀ a0 a1 a2 a3, zFr M z0 a3 → zPw M z0 (K2 a0 a1 a2 a3)) (h : zFr M z0 z) : zPw M z0 (fX1_listenerAt_2b N K2 x0 x1 x2 z) := by
  unfold fX1_listenerAt_2b
  exact zw_i (zw_s h) (zw_k (zw_l (fun y3 => zw_d (fun a4 => zw_i (wX1_listenerAt_39 (ztr rfl hM) hK2 h) (zw_k (zw_l (fun y7 => zw_d (fun a8 => zw_i (wX1_listenerAt_39 (ztr rfl hM) hK2 h) (zw_s h)))))))))
def mX1_listenerAt_2 : Nat := 0x0
theorem wX1_listenerAt_2 {M : Nat} {z0 : St} {N : Nat}(hM : mX1_listenerAt_2 &&& M = mX1_listenerAt_2)  : ∀ (n : Nat) (y0 : Nat) (y1 : Int32) (y2 : Int32) (z : St), zFr M z0 z → zPw M z0 (fX1_listenerAt_2 N n y0 y1 y2 z) := by
  intro n
  induction n with
  | zero => intro y0 y1 y2 z h; exact zw_n
  | succ n ih => intro y0 y1 y2 z h; exact wX1_listenerAt_2b (ztr rfl hM)  (fun _ _ _ _ h => ih _ _ _ _ h) h
def mX1_listenerAt : Nat := 0x0
theorem wX1_listenerAt {M : Nat} {N : Nat} {x0 : Nat} {x1 : Int32} {z0 z : St} (hM : mX1_listenerAt &&& M = mX1_listenerAt)  (h : zFr M z0 z) : zPw M z0 (fX1_listenerAt N x0 x1 z) := by
  unfold fX1_listenerAt
  exact wX1_listenerAt_2 (ztr rfl hM)  _ _ _ _ _ h
def mX2_isFor : Nat := 0x0
theorem wX2_isFor {M : Nat} {N : Nat} {x0 : Nat} {x1 : Int32} {x2 : Int32} {x3 : Int32} {z0 z : St} (hM : mX2_isFor &&& M = mX2_isFor)  (h : zFr M z0 z) : zPw M z0 (fX2_isFor N x0 x1 x2 x3 z) := by
  unfold fX2_isFor
  exact zw_i (zw_s h) (zw_i (zw_s h) (zw_i (zw_s h) (zw_i (zw_s h) (zw_s h))))
def mX3_isDead_16 : Nat := 0x0
theorem wX3_isDead_16 {M : Nat} {N : Nat} {z0 z : St} (hM : mX3_isDead_16 &&& M = mX3_isDead_16)  (h : zFr M z0 z) : zPw M z0 (fX3_isDead_16 N z) := by
  unfold fX3_isDead_16
  exact zw_s h
def mX3_isDead : Nat := 0x0
theorem wX3_isDead {M : Nat} {N : Nat} {x0 : Nat} {z0 z : St} (hM : mX3_isDead &&& M = mX3_isDead)  (h : zFr M z0 z) : zPw M z0 (fX3_isDead N x0 z) := by
  unfold fX3_isDead
  exact zw_i (wX3_isDead_16 (ztr rfl hM)  h) (zw_i (zw_s h) (wX3_isDead_16 (ztr rfl hM)  h))
def mX1_liveDoor_53 : Nat := 0x0
theorem wX1_liveDoor_53 {M : Nat} {N : Nat} {K3 : Nat → Int32 → Int32 → Int32 → Int32 → St → Option (Option Nat × St)} {x0 : Nat} {x1 : Int32} {x2 : Int32} {x3 : Int32} {x4 : Int32} {z0 z : St} (hM : mX1_liveDoor_53 &&& M = mX1_liveDoor_53)  (hK3 : ∀ a0 a1 a2 a3 a4 a5, zFr M z0 a5 → zPw M z0 (K3 a0 a1 a2 a3 a4 a5)) (h : zFr M z0 z) : zPw M z0 (fX1_liveDoor_53 N K3 x0 x1 x2 x3 x4 z) := by
  unfold fX1_liveDoor_53
  exact zw_l (fun v1 => hK3 _ _ _ _ _ _ h)
def mX1_liveDoor_3b : Nat := 0x0
theorem wX1_liveDoor_3b {M : Nat} {N : Nat} {K3 : Nat → Int32 → Int32 → Int32 → Int32 → St → Option (Option Nat × St)} {x0 : Nat} {x1 : Int32} {x2 : Int32} {x3 : Int32} {x4 : Int32} {z0 z : St} (hM : mX1_liveDoor_3b &&& M = mX1_liveDoor_3b)  (hK3 : ∀ a0 a1 a2 a3 a4 a5, zFr M z0 a5 → zPw M z0 (K3 a0 a1 a2 a3 a4 a5)) (h : zFr M z0 z) : zPw M z0 (fX1_liveDoor_3b N K3 x0 x1 x2 x3 x4 z) := by
  unfold fX1_liveDoor_3b
  exact zw_i (zw_s h) (zw_k (zw_l (fun y3 => zw_d (fun a4 => zw_c (wX2_isFor (ztr rfl hM)  h) (fun r5 z6 h1 => zw_i (wX1_liveDoor_53 (ztr rfl hM) hK3 h1) (zw_k (zw_l (fun y11 => zw_d (fun a12 => zw_l (fun y13 => zw_d (fun a14 => zw_c (wX3_isDead (ztr rfl hM)  h1) (fun r15 z16 h2 => zw_i (wX1_liveDoor_53 (ztr rfl hM) hK3 h2) (zw_k (zw_l (fun y21 => zw_s h2)))))))))))))))
def mX1_liveDoor_3 : Nat := 0x0
theorem wX1_liveDoor_3 {M : Nat} {z0 : St} {N : Nat}(hM : mX1_liveDoor_3 &&& M = mX1_liveDoor_3)  : ∀ (n : Nat) (y0 : Nat) (y1 : Int32) (y2 : Int32) (y3 : Int32) (y4 : Int32) (z : St), zFr M z0 z → zPw M z0 (fX1_liveDoor_3 N n y0 y1 y2 y3 y4 z) := by
  intro n
  induction n with
  | zero => intro y0 y1 y2 y3 y4 z h; exact zw_n
  | succ n ih => intro y0 y1 y2 y3 y4 z h; exact wX1_liveDoor_3b (ztr rfl hM)  (fun _ _ _ _ _ _ h => ih _ _ _ _ _ _ h) h
def mX1_liveDoor : Nat := 0x0
theorem wX1_liveDoor {M : Nat} {N : Nat} {x0 : Nat} {x1 : Int32} {x2 : Int32} {x3 : Int32} {z0 z : St} (hM : mX1_liveDoor &&& M = mX1_liveDoor)  (h : zFr M z0 z) : zPw M z0 (fX1_liveDoor N x0 x1 x2 x3 z) := by
  unfold fX1_liveDoor
  exact wX1_liveDoor_3 (ztr rfl hM)  _ _ _ _ _ _ _ h
def mX1_doorThrough_54 : Nat := 0x0
theorem wX1_doorThrough_54 {M : Nat} {N : Nat} {K4 : Nat → Int32 → Int32 → Int32 → St → Option (Option Nat × St)} {x0 : Nat} {x1 : Int32} {x2 : Int32} {x3 : Int32} {z0 z : St} (hM : mX1_doorThrough_54 &&& M = mX1_doorThrough_54)  (hK4 : ∀ a0 a1 a2 a3 a4, zFr M z0 a4 → zPw M z0 (K4 a0 a1 a2 a3 a4)) (h : zFr M z0 z) : zPw M z0 (fX1_doorThrough_54 N K4 x0 x1 x2 x3 z) := by
  unfold fX1_doorThrough_54
  exact zw_l (fun v1 => hK4 _ _ _ _ _ h)
def mX1_doorThrough_82 : Nat := 0x0
theorem wX1_doorThrough_82 {M : Nat} {N : Nat} {z0 z : St} (hM : mX1_doorThrough_82 &&& M = mX1_doorThrough_82)  (h : zFr M z0 z) : zPw M z0 (fX1_doorThrough_82 N z) := by
  unfold fX1_doorThrough_82
  exact zw_s h
def mX1_doorThrough_4b : Nat := 0x0
theorem wX1_doorThrough_4b {M : Nat} {N : Nat} {K4 : Nat → Int32 → Int32 → Int32 → St → Option (Option Nat × St)} {x0 : Nat} {x1 : Int32} {x2 : Int32} {x3 : Int32} {z0 z : St} (hM : mX1_doorThrough_4b &&& M = mX1_doorThrough_4b)  (hK4 : ∀ a0 a1 a2 a3 a4, zFr M z0 a4 → zPw M z0 (K4 a0 a1 a2 a3 a4)) (h : zFr M z0 z) : zPw M z0 (fX1_doorThrough_4b N K4 x0 x1 x2 x3 z) := by
  unfold fX1_doorThrough_4b
  exact zw_i (zw_c (wX1_unusedDoor (ztr rfl hM)  h) (fun r2 z3 h1 => zw_i (wX1_doorThrough_82 (ztr rfl hM)  h1) (zw_k (zw_l (fun y8 => zw_d (fun a9 => zw_i (zw_k (zw_l (fun y12 => zw_s h1))) (wX1_doorThrough_82 (ztr rfl hM)  h1))))))) (zw_k (zw_l (fun y14 => zw_d (fun a15 => zw_i (wX1_doorThrough_54 (ztr rfl hM) hK4 h) (zw_i (wX1_doorThrough_54 (ztr rfl hM) hK4 h) (zw_l (fun y18 => zw_d (fun a19 => zw_i (wX1_doorThrough_54 (ztr rfl hM) hK4 h) (zw_l (fun v21 => wX1_doorThrough_54 (ztr rfl hM) hK4 h))))))))))
def mX1_doorThrough_4 : Nat := 0x0
theorem wX1_doorThrough_4 {M : Nat} {z0 : St} {N : Nat}(hM : mX1_doorThrough_4 &&& M = mX1_doorThrough_4)  : ∀ (n : Nat) (y0 : Nat) (y1 : Int32) (y2 : Int32) (y3 : Int32) (z : St), zFr M z0 z → zPw M z0 (fX1_doorThrough_4 N n y0 y1 y2 y3 z) := by
  intro n
  induction n with
  | zero => intro y0 y1 y2 y3 z h; exact zw_n
  | succ n ih => intro y0 y1 y2 y3 z h; exact wX1_doorThrough_4b (ztr rfl hM)  (fun _ _ _ _ _ h => ih _ _ _ _ _ h) h
def mX1_doorThrough : Nat := 0x0
theorem wX1_doorThrough {M : Nat} {N : Nat} {x0 : Nat} {x1 : Int32} {z0 z : St} (hM : mX1_doorThrough &&& M = mX1_doorThrough)  (h : zFr M z0 z) : zPw M z0 (fX1_doorThrough N x0 x1 z) := by
  unfold fX1_doorThrough
  exact wX1_doorThrough_4 (ztr rfl hM)  _ _ _ _ _ _ h
def mX2_setUnused : Nat := 0x6f00000000000000000000000000000000
theorem wX2_setUnused {M : Nat} {N : Nat} {x0 : Nat} {z0 z : St} (hM : mX2_setUnused &&& M = mX2_setUnused)  (h : zFr M z0 z) : zPw M z0 (fX2_setUnused N x0 z) := by
  unfold fX2_setUnused
  exact zw_lI h (ztb hM rfl) (fun z1 h1 => zw_lI h1 (ztb hM rfl) (fun z2 h2 => zw_lI h2 (ztb hM rfl) (fun z3 h3 => zw_lI h3 (ztb hM rfl) (fun z4 h4 => zw_lI h4 (ztb hM rfl) (fun z5 h5 => zw_lI h5 (ztb hM rfl) (fun z6 h6 => zw_s h6))))))
def mX2_startListening : Nat := 0x1300000000000000000000000000000000
theorem wX2_startListening {M : Nat} {N : Nat} {x0 : Nat} {x1 : Int32} {x2 : Int32} {z0 z : St} (hM : mX2_startListening &&& M = mX2_startListening)  (h : zFr M z0 z) : zPw M z0 (fX2_startListening N x0 x1 x2 z) := by
  unfold fX2_startListening
  exact zw_lI h (ztb hM rfl) (fun z1 h1 => zw_lI h1 (ztb hM rfl) (fun z2 h2 => zw_lI h2 (ztb hM rfl) (fun z3 h3 => zw_s h3)))
def mX2_giveEnd : Nat := 0xfef00000000000000000000000000000000
theorem wX2_giveEnd {M : Nat} {N : Nat} {x0 : Nat} {x1 : Int32} {x2 : Int32} {x3 : Int32} {z0 z : St} (hM : mX2_giveEnd &&& M = mX2_giveEnd)  (h : zFr M z0 z) : zPw M z0 (fX2_giveEnd N x0 x1 x2 x3 z) := by
  unfold fX2_giveEnd
  exact zw_lI h (ztb hM rfl) (fun z1 h1 => zw_lI h1 (ztb hM rfl) (fun z2 h2 => zw_lI h2 (ztb hM rfl) (fun z3 h3 => zw_lI h3 (ztb hM rfl) (fun z4 h4 => zw_lI h4 (ztb hM rfl) (fun z5 h5 => zw_lI h5 (ztb hM rfl) (fun z6 h6 => zw_lI h6 (ztb hM rfl) (fun z7 h7 => zw_lI h7 (ztb hM rfl) (fun z8 h8 => zw_lI h8 (ztb hM rfl) (fun z9 h9 => zw_lI h9 (ztb hM rfl) (fun z10 h10 => zw_lI h10 (ztb hM rfl) (fun z11 h11 => zw_s h11)))))))))))
def mX2_takesBytes : Nat := 0x0
theorem wX2_takesBytes {M : Nat} {N : Nat} {x0 : Nat} {z0 z : St} (hM : mX2_takesBytes &&& M = mX2_takesBytes)  (h : zFr M z0 z) : zPw M z0 (fX2_takesBytes N x0 z) := by
  unfold fX2_takesBytes
  exact zw_i (zw_s h) (zw_l (fun y2 => zw_d (fun a3 => zw_l (fun y4 => zw_d (fun a5 => zw_i (zw_s h) (zw_l (fun y7 => zw_d (fun a8 => zw_i (zw_s h) (zw_l (fun y10 => zw_d (fun a11 => zw_c (wX3_isDead (ztr rfl hM)  h) (fun r12 z13 h1 => zw_i (zw_s h1) (zw_s h1)))))))))))))
def mX10_begin : Nat := 0x7f0000000000000000000000000000000000000000000000000000000000000000000000000000000000000000000000000000000000000000000000000000000000000000000000000000000000000000
theorem wX10_begin {M : Nat} {N : Nat} {x0 : Nat} {z0 z : St} (hM : mX10_begin &&& M = mX10_begin)  (h : zFr M z0 z) : zPw M z0 (fX10_begin N x0 z) := by
  unfold fX10_begin
  exact zw_lI h (ztb hM rfl) (fun z1 h1 => zw_lI h1 (ztb hM rfl) (fun z2 h2 => zw_lI h2 (ztb hM rfl) (fun z3 h3 => zw_lI h3 (ztb hM rfl) (fun z4 h4 => zw_lI h4 (ztb hM rfl) (fun z5 h5 => zw_lI h5 (ztb hM rfl) (fun z6 h6 => zw_lI h6 (ztb hM rfl) (fun z7 h7 => zw_s h7)))))))
def mX4_begin_32b : Nat := 0x20000000000000000000000000000000000000000000000000000000000000000000000000000000000000000000000000000000000000000000000000000000000000000000000000000000000000000000000000000000000000000000000000000000000000000000000000000000000000000000000000000000000000000000000000000000000000000000000000000000000000000000000000000000000000
theorem wX4_begin_32b {M : Nat} {N : Nat} {K32 : Nat → Int32 → St → Option (Int32 × St)} {x0 : Nat} {x1 : Int32} {z0 z : St} (hM : mX4_begin_32b &&& M = mX4_begin_32b)  (hK32 : ∀ a0 a1 a2, zFr M z0 a2 → zPw M z0 (K32 a0 a1 a2)) (h : zFr M z0 z) : zPw M z0 (fX4_begin_32b N K32 x0 x1 z) := by
  unfold fX4_begin_32b
  exact zw_i (zw_s h) (zw_k (zw_lA h (ztb hM rfl) (fun z3 h1 => zw_l (fun v4 => hK32 _ _ _ h1))))
def mX4_begin_32 : Nat := 0x20000000000000000000000000000000000000000000000000000000000000000000000000000000000000000000000000000000000000000000000000000000000000000000000000000000000000000000000000000000000000000000000000000000000000000000000000000000000000000000000000000000000000000000000000000000000000000000000000000000000000000000000000000000000000
theorem wX4_begin_32 {M : Nat} {z0 : St} {N : Nat}(hM : mX4_begin_32 &&& M = mX4_begin_32)  : ∀ (n : Nat) (y0 : Nat) (y1 : Int32) (z : St), zFr M z0 z → zPw M z0 (fX4_begin_32 N n y0 y1 z) := by
  intro n
  induction n with
  | zero => intro y0 y1 z h; exact zw_n
  | succ n ih => intro y0 y1 z h; exact wX4_begin_32b (ztr rfl hM)  (fun _ _ _ h => ih _ _ _ h) h
def mX4_begin : Nat := 0x20000000000000000000000000000000000000000000000000000000000000000000000000000000000000000000000000000000000000000000000000000000000000000000000000000000000000000000000000000000000000000000000000000000000000000000000000000000000000000000000000000000000000000000fc0000000000000000000000000000000000000000000000000000000000000000
theorem wX4_begin {M : Nat} {N : Nat} {x0 : Nat} {z0 z : St} (hM : mX4_begin &&& M = mX4_begin)  (h : zFr M z0 z) : zPw M z0 (fX4_begin N x0 z) := by
  unfold fX4_begin
  exact zw_lI h (ztb hM rfl) (fun z1 h1 => zw_lI h1 (ztb hM rfl) (fun z2 h2 => zw_lI h2 (ztb hM rfl) (fun z3 h3 => zw_lI h3 (ztb hM rfl) (fun z4 h4 => zw_lI h4 (ztb hM rfl) (fun z5 h5 => zw_lI h5 (ztb hM rfl) (fun z6 h6 => wX4_begin_32 (ztr rfl hM)  _ _ _ _ h6))))))
def mX6_begin : Nat := 0x3ffe000000000000000000000000000000000000000000000000000000000000000000000000000000000000000000000000
theorem wX6_begin {M : Nat} {N : Nat} {x0 : Nat} {x1 : Int32} {z0 z : St} (hM : mX6_begin &&& M = mX6_begin)  (h : zFr M z0 z) : zPw M z0 (fX6_begin N x0 x1 z) := by
  unfold fX6_begin
  exact zw_lI h (ztb hM rfl) (fun z1 h1 => zw_lI h1 (ztb hM rfl) (fun z2 h2 => zw_lI h2 (ztb hM rfl) (fun z3 h3 => zw_lI h3 (ztb hM rfl) (fun z4 h4 => zw_lI h4 (ztb hM rfl) (fun z5 h5 => zw_lI h5 (ztb hM rfl) (fun z6 h6 => zw_lI h6 (ztb hM rfl) (fun z7 h7 => zw_lI h7 (ztb hM rfl) (fun z8 h8 => zw_lI h8 (ztb hM rfl) (fun z9 h9 => zw_lI h9 (ztb hM rfl) (fun z10 h10 => zw_lI h10 (ztb hM rfl) (fun z11 h11 => zw_lI h11 (ztb hM rfl) (fun z12 h12 => zw_lI h12 (ztb hM rfl) (fun z13 h13 => zw_s h13)))))))))))))
def mX3_beginAgain : Nat := 0x200000000000000000000000000000000000000000000000000000000000000000000000000000000000000000000000000000000000000000000000000000000000000000000000000000000000000000007f0000000000000000000000000000000000000000000000000000000000003ffe000000000000000000000000000000fc000000000000be15000000000000000000000000000000000000000000000000
theorem wX3_beginAgain {M : Nat} {N : Nat} {x0 : Nat} {x1 : Int32} {z0 z : St} (hM : mX3_beginAgain &&& M = mX3_beginAgain)  (h : zFr M z0 z) : zPw M z0 (fX3_beginAgain N x0 x1 z) := by
  unfold fX3_beginAgain
  exact zw_lI h (ztb hM rfl) (fun z1 h1 => zw_lI h1 (ztb hM rfl) (fun z2 h2 => zw_lI h2 (ztb hM rfl) (fun z3 h3 => zw_lI h3 (ztb hM rfl) (fun z4 h4 => zw_lI h4 (ztb hM rfl) (fun z5 h5 => zw_lI h5 (ztb hM rfl) (fun z6 h6 => zw_lI h6 (ztb hM rfl) (fun z7 h7 => zw_lI h7 (ztb hM rfl) (fun z8 h8 => zw_lI h8 (ztb hM rfl) (fun z9 h9 => zw_l (fun y10 => zw_d (fun a11 => zw_c (wX6_begin (ztr rfl hM)  h9) (fun _ z13 h10 => zw_l (fun y16 => zw_d (fun a17 => zw_c (wX4_begin (ztr rfl hM)  h10) (fun _ z19 h11 => zw_l (fun y22 => zw_d (fun a23 => zw_c (wX10_begin (ztr rfl hM)  h11) (fun _ z25 h12 => zw_s h12))))))))))))))))))
def mX3_begin : Nat := 0x200000000000000000000000000000000000000000000000000000000000000000000000000000000000000000000000000000000000000000000000000000000000000000000000000000000000000000007f0000000000000000000000000000000000000000000000000000000000003ffe000000000000000000000000000000fc000000000000fe3f000000000000000000000000000000000000000000000000
theorem wX3_begin {M : Nat} {N : Nat} {x0 : Nat} {x1 : Int32} {x2 : Int32} {x3 : Int32} {z0 z : St} (hM : mX3_begin &&& M = mX3_begin)  (h : zFr M z0 z) : zPw M z0 (fX3_begin N x0 x1 x2 x3 z) := by
  unfold fX3_begin
  exact zw_lI h (ztb hM rfl) (fun z1 h1 => zw_lI h1 (ztb hM rfl) (fun z2 h2 => zw_lI h2 (ztb hM rfl) (fun z3 h3 => zw_lI h3 (ztb hM rfl) (fun z4 h4 => zw_lI h4 (ztb hM rfl) (fun z5 h5 => zw_c (wX3_beginAgain (ztr rfl hM)  h5) (fun _ z7 h6 => zw_s h6))))))
def mX3_startAsking : Nat := 0x40000000000000000000000000000000000000000000000209000000000000000000000000000000000000000000000000
theorem wX3_startAsking {M : Nat} {N : Nat} {x0 : Nat} {z0 z : St} (hM : mX3_startAsking &&& M = mX3_startAsking)  (h : zFr M z0 z) : zPw M z0 (fX3_startAsking N x0 z) := by
  unfold fX3_startAsking
  exact zw_lI h (ztb hM rfl) (fun z1 h1 => zw_lI h1 (ztb hM rfl) (fun z2 h2 => zw_l (fun y3 => zw_l (fun y4 => zw_d (fun a5 => zw_d (fun a6 => zw_lI h2 (ztb hM rfl) (fun z7 h3 => zw_lI h3 (ztb hM rfl) (fun z8 h4 => zw_s h4))))))))
def mX3_sendsNew_34 : Nat := 0x0
theorem wX3_sendsNew_34 {M : Nat} {N : Nat} {z0 z : St} (hM : mX3_sendsNew_34 &&& M = mX3_sendsNew_34)  (h : zFr M z0 z) : zPw M z0 (fX3_sendsNew_34 N z) := by
  unfold fX3_sendsNew_34
  exact zw_s h
def mX3_sendsNew : Nat := 0x0
theorem wX3_sendsNew {M : Nat} {N : Nat} {x0 : Nat} {z0 z : St} (hM : mX3_sendsNew &&& M = mX3_sendsNew)  (h : zFr M z0 z) : zPw M z0 (fX3_sendsNew N x0 z) := by
  unfold fX3_sendsNew
  exact zw_i (wX3_sendsNew_34 (ztr rfl hM)  h) (zw_i (wX3_sendsNew_34 (ztr rfl hM)  h) (zw_i (zw_s h) (zw_i (zw_s h) (wX3_sendsNew_34 (ztr rfl hM)  h))))
def mX3_takesIn_25 : Nat := 0x0
theorem wX3_takesIn_25 {M : Nat} {N : Nat} {z0 z : St} (hM : mX3_takesIn_25 &&& M = mX3_takesIn_25)  (h : zFr M z0 z) : zPw M z0 (fX3_takesIn_25 N z) := by
  unfold fX3_takesIn_25
  exact zw_s h
def mX3_takesIn : Nat := 0x0
theorem wX3_takesIn {M : Nat} {N : Nat} {x0 : Nat} {z0 z : St} (hM : mX3_takesIn &&& M = mX3_takesIn)  (h : zFr M z0 z) : zPw M z0 (fX3_takesIn N x0 z) := by
  unfold fX3_takesIn
  exact zw_i (wX3_takesIn_25 (ztr rfl hM)  h) (zw_i (wX3_takesIn_25 (ztr rfl hM)  h) (zw_i (zw_s h) (wX3_takesIn_25 (ztr rfl hM)  h)))
def mX3_finish_31 : Nat := 0x10000000000000000000000000000000000000000000000000000000000000000000000000000000000000000000000000000000000000000000000000000000000000000000000000000000000000000
theorem wX3_finish_31 {M : Nat} {N : Nat} {x0 : Nat} {z0 z : St} (hM : mX3_finish_31 &&& M = mX3_finish_31)  (h : zFr M z0 z) : zPw M z0 (fX3_finish_31 N x0 z) := by
  unfold fX3_finish_31
  exact zw_l (fun y1 => zw_d (fun a2 => zw_lI h (ztb hM rfl) (fun z3 h1 => zw_s h1)))
def mX3_finish : Nat := 0x10000000000000000000000000000000000000000000000000000000000000000000000000000000000000000000000000000000000003a01000000000000000000000000000000000000000000000000
theorem wX3_finish {M : Nat} {N : Nat} {x0 : Nat} {x1 : Int32} {z0 z : St} (hM : mX3_finish &&& M = mX3_finish)  (h : zFr M z0 z) : zPw M z0 (fX3_finish N x0 x1 z) := by
  unfold fX3_finish
  exact zw_lI h (ztb hM rfl) (fun z1 h1 => zw_lI h1 (ztb hM rfl) (fun z2 h2 => zw_lI h2 (ztb hM rfl) (fun z3 h3 => zw_lI h3 (ztb hM rfl) (fun z4 h4 => zw_i (wX3_finish_31 (ztr rfl hM)  h4) (zw_lI h4 (ztb hM rfl) (fun z6 h5 => wX3_finish_31 (ztr rfl hM)  h5))))))
def mX3_becomeQuiet : Nat := 0x10000000000000000000000000000000000000000000000000000000000000000000000000000000000000000000000000000000000003a11000000000000000000000000000000000000000000000000
theorem wX3_becomeQuiet {M : Nat} {N : Nat} {x0 : Nat} {x1 : Int32} {z0 z : St} (hM : mX3_becomeQuiet &&& M = mX3_becomeQuiet)  (h : zFr M z0 z) : zPw M z0 (fX3_becomeQuiet N x0 x1 z) := by
  unfold fX3_becomeQuiet
  exact zw_c (wX3_finish (ztr rfl hM)  h) (fun _ z2 h1 => zw_lI h1 (ztb hM rfl) (fun z5 h2 => zw_s h2))
def mX3_closeByOwner_24 : Nat := 0x10000000000000000000000000000000000000000000000000000000000000000000000000000000000000000000000000000000000003a01000000000000000000000000000000000000000000000000
theorem wX3_closeByOwner_24 {M : Nat} {N : Nat} {x0 : Nat} {z0 z : St} (hM : mX3_closeByOwner_24 &&& M = mX3_closeByOwner_24)  (h : zFr M z0 z) : zPw M z0 (fX3_closeByOwner_24 N x0 z) := by
  unfold fX3_closeByOwner_24
  exact zw_c (wX3_finish (ztr rfl hM)  h) (fun _ z2 h1 => zw_s h1)
def mX3_closeByOwner : Nat := 0x10000000000000000000000000000000000000000000000000000000000000100000000000000000000000000000000000000000000003a01000000000000000000000000000000000000000000000000
theorem wX3_closeByOwner {M : Nat} {N : Nat} {x0 : Nat} {z0 z : St} (hM : mX3_closeByOwner &&& M = mX3_closeByOwner)  (h : zFr M z0 z) : zPw M z0 (fX3_closeByOwner N x0 z) := by
  unfold fX3_closeByOwner
  exact zw_l (fun y1 => zw_d (fun a2 => zw_lI h (ztb hM rfl) (fun z3 h1 => zw_i (wX3_closeByOwner_24 (ztr rfl hM)  h1) (zw_i (zw_i (zw_i (zw_s h1) (zw_lI h1 (ztb hM rfl) (fun z8 h2 => zw_s h2))) (zw_lI h1 (ztb hM rfl) (fun z9 h3 => zw_s h3))) (wX3_closeByOwner_24 (ztr rfl hM)  h1)))))
def mX3_abortByOwner_58 : Nat := 0x10000000000000000000000000000000000000000000000000000000000000000000000000000000000000000000000000000000000003a01000000000000000000000000000000000000000000000000
theorem wX3_abortByOwner_58 {M : Nat} {N : Nat} {x0 : Nat} {z0 z : St} (hM : mX3_abortByOwner_58 &&& M = mX3_abortByOwner_58)  (h : zFr M z0 z) : zPw M z0 (fX3_abortByOwner_58 N x0 z) := by
  unfold fX3_abortByOwner_58
  exact zw_c (wX3_finish (ztr rfl hM)  h) (fun _ z2 h1 => zw_s h1)
def mX3_abortByOwner : Nat := 0x10000000000000000000000000000000000000000000000000000000000000000000000000000000000000000000000000000000000003be1000000000000000000000000000000000000000000000000
theorem wX3_abortByOwner {M : Nat} {N : Nat} {x0 : Nat} {z0 z : St} (hM : mX3_abortByOwner &&& M = mX3_abortByOwner)  (h : zFr M z0 z) : zPw M z0 (fX3_abortByOwner N x0 z) := by
  unfold fX3_abortByOwner
  exact zw_i (wX3_abortByOwner_58 (ztr rfl hM)  h) (zw_i (wX3_abortByOwner_58 (ztr rfl hM)  h) (zw_i (wX3_abortByOwner_58 (ztr rfl hM)  h) (zw_lI h (ztb hM rfl) (fun z4 h1 => zw_lI h1 (ztb hM rfl) (fun z5 h2 => zw_l (fun y6 => zw_d (fun a7 => zw_lI h2 (ztb hM rfl) (fun z8 h3 => zw_l (fun y9 => zw_d (fun a10 => zw_lI h3 (ztb hM rfl) (fun z11 h4 => wX3_abortByOwner_58 (ztr rfl hM)  h4)))))))))))
def mX4_room : Nat := 0x0
theorem wX4_room {M : Nat} {N : Nat} {x0 : Nat} {z0 z : St} (hM : mX4_room &&& M = mX4_room)  (h : zFr M z0 z) : zPw M z0 (fX4_room N x0 z) := by
  unfold fX4_room
  exact zw_s h
def mX4_takeByte : Nat := 0xc0000000000000000000000000000000000000000000000000000000000000000
theorem wX4_takeByte {M : Nat} {N : Nat} {x0 : Nat} {z0 z : St} (hM : mX4_takeByte &&& M = mX4_takeByte)  (h : zFr M z0 z) : zPw M z0 (fX4_takeByte N x0 z) := by
  unfold fX4_takeByte
  exact zw_i (zw_k (zw_l (fun v3 => zw_lI h (ztb hM rfl) (fun z4 h1 => zw_lI h1 (ztb hM rfl) (fun z5 h2 => zw_s h2))))) (zw_s h)
def mX3_takeByte_27 : Nat := 0xc0000000000002000000000000000000000000000000000000000000000000000
theorem wX3_takeByte_27 {M : Nat} {N : Nat} {x0 : Nat} {x1 : Int32} {s0 : Int32} {z0 z : St} (hM : mX3_takeByte_27 &&& M = mX3_takeByte_27)  (h : zFr M z0 z) : zPw M z0 (fX3_takeByte_27 N x0 x1 s0 z) := by
  unfold fX3_takeByte_27
  exact zw_l (fun y1 => zw_d (fun a2 => zw_c (wX4_takeByte (ztr rfl hM)  h) (fun r3 z4 h1 => zw_i (zw_s h1) (zw_l (fun y8 => zw_d (fun a9 => zw_c (wX4_room (ztr rfl hM)  h1) (fun r10 z11 h2 => zw_i (zw_s h2) (zw_c (wX3_takesIn (ztr rfl hM)  h2) (fun r15 z16 h3 => zw_i (zw_s h3) (zw_lI h3 (ztb hM rfl) (fun z20 h4 => zw_s h4)))))))))))
def mX3_takeByte : Nat := 0xc0000000000002000000000000000000000000000000000000000000000000000
theorem wX3_takeByte {M : Nat} {N : Nat} {x0 : Nat} {z0 z : St} (hM : mX3_takeByte &&& M = mX3_takeByte)  (h : zFr M z0 z) : zPw M z0 (fX3_takeByte N x0 z) := by
  unfold fX3_takeByte
  exact zw_l (fun v1 => zw_l (fun y2 => zw_d (fun a3 => zw_c (wX4_room (ztr rfl hM)  h) (fun r4 z5 h1 => zw_i (wX3_takeByte_27 (ztr rfl hM)  h1) (wX3_takeByte_27 (ztr rfl hM)  h1)))))
def mX6_hasUnthanked : Nat := 0x0
theorem wX6_hasUnthanked {M : Nat} {N : Nat} {x0 : Nat} {z0 z : St} (hM : mX6_hasUnthanked &&& M = mX6_hasUnthanked)  (h : zFr M z0 z) : zPw M z0 (fX6_hasUnthanked N x0 z) := by
  unfold fX6_hasUnthanked
  exact zw_i (zw_s h) (zw_s h)
def mX3_ring_123 : Nat := 0x50000000000000000000000000000000000000000000000000000000000000000000000000000000000000000000000000000000000000000000000000000000000000000000000000000000000000000
theorem wX3_ring_123 {M : Nat} {N : Nat} {x0 : Nat} {x1 : Int32} {z0 z : St} (hM : mX3_ring_123 &&& M = mX3_ring_123)  (h : zFr M z0 z) : zPw M z0 (fX3_ring_123 N x0 x1 z) := by
  unfold fX3_ring_123
  exact zw_l (fun y1 => zw_l (fun y2 => zw_d (fun a3 => zw_d (fun a4 => zw_lI h (ztb hM rfl) (fun z5 h1 => zw_l (fun y6 => zw_l (fun y7 => zw_d (fun a8 => zw_d (fun a9 => zw_lI h1 (ztb hM rfl) (fun z10 h2 => zw_s h2))))))))))
def mX3_ring_110 : Nat := 0x50000000000000000000000000000000000000000000000000000000000000000000000000000000000000000000000000000000000000200000000000000000000000000000000000000000000000000
theorem wX3_ring_110 {M : Nat} {N : Nat} {x0 : Nat} {x1 : Int32} {z0 z : St} (hM : mX3_ring_110 &&& M = mX3_ring_110)  (h : zFr M z0 z) : zPw M z0 (fX3_ring_110 N x0 x1 z) := by
  unfold fX3_ring_110
  exact zw_lI h (ztb hM rfl) (fun z1 h1 => wX3_ring_123 (ztr rfl hM)  h1)
def mX3_ring_22 : Nat := 0x70000000000000000000000000000000000000000000000000000000000000000000000000000000000000000000000000000000000003a01000000000000000000000000000000000000000000000000
theorem wX3_ring_22 {M : Nat} {N : Nat} {x0 : Nat} {x1 : Int32} {z0 z : St} (hM : mX3_ring_22 &&& M = mX3_ring_22)  (h : zFr M z0 z) : zPw M z0 (fX3_ring_22 N x0 x1 z) := by
  unfold fX3_ring_22
  exact zw_l (fun y1 => zw_d (fun a2 => zw_i (zw_s h) (zw_l (fun y4 => zw_d (fun a5 => zw_i (zw_l (fun y7 => zw_d (fun a8 => zw_lI h (ztb hM rfl) (fun z9 h1 => zw_l (fun y10 => zw_d (fun a11 => zw_i (zw_l (fun y13 => zw_d (fun a14 => zw_c (wX6_hasUnthanked (ztr rfl hM)  h1) (fun r15 z16 h2 => zw_i (zw_i (wX3_ring_110 (ztr rfl hM)  h2) (zw_i (zw_lI h2 (ztb hM rfl) (fun z22 h3 => wX3_ring_123 (ztr rfl hM)  h3)) (wX3_ring_110 (ztr rfl hM)  h2))) (zw_lI h2 (ztb hM rfl) (fun z23 h4 => wX3_ring_123 (ztr rfl hM)  h4)))))) (zw_c (wX3_finish (ztr rfl hM)  h1) (fun _ z25 h5 => zw_s h5)))))))) (zw_s h))))))
def mX3_ring : Nat := 0x70000000000000000000000000000000000000000000000000000000000000000000000000000000000000000000000000000000000003a01000000000000000000000000000000000000000000000000
theorem wX3_ring {M : Nat} {N : Nat} {x0 : Nat} {x1 : Int32} {z0 z : St} (hM : mX3_ring &&& M = mX3_ring)  (h : zFr M z0 z) : zPw M z0 (fX3_ring N x0 x1 z) := by
  unfold fX3_ring
  exact zw_i (wX3_ring_22 (ztr rfl hM)  h) (zw_i (wX3_ring_22 (ztr rfl hM)  h) (zw_c (wX3_finish (ztr rfl hM)  h) (fun _ z4 h1 => wX3_ring_22 (ztr rfl hM)  h1)))
def mX6_hasNew_25 : Nat := 0x0
theorem wX6_hasNew_25 {M : Nat} {N : Nat} {z0 z : St} (hM : mX6_hasNew_25 &&& M = mX6_hasNew_25)  (h : zFr M z0 z) : zPw M z0 (fX6_hasNew_25 N z) := by
  unfold fX6_hasNew_25
  exact zw_s h
def mX6_hasNew : Nat := 0x0
theorem wX6_hasNew {M : Nat} {N : Nat} {x0 : Nat} {z0 z : St} (hM : mX6_hasNew &&& M = mX6_hasNew)  (h : zFr M z0 z) : zPw M z0 (fX6_hasNew N x0 z) := by
  unfold fX6_hasNew
  exact zw_i (wX6_hasNew_25 (ztr rfl hM)  h) (zw_i (zw_s h) (zw_i (zw_s h) (wX6_hasNew_25 (ztr rfl hM)  h)))
def mX3_armProbe : Nat := 0x10000000000000000000000000000000000000000000000000000000000000000000000000000000000000000000000000000000000000000000000000000000000000000000000000000000000000000
theorem wX3_armProbe {M : Nat} {N : Nat} {x0 : Nat} {x1 : Int32} {z0 z : St} (hM : mX3_armProbe &&& M = mX3_armProbe)  (h : zFr M z0 z) : zPw M z0 (fX3_armProbe N x0 x1 z) := by
  unfold fX3_armProbe
  exact zw_l (fun y1 => zw_d (fun a2 => zw_i (zw_s h) (zw_c (wX3_sendsNew (ztr rfl hM)  h) (fun r4 z5 h1 => zw_i (zw_s h1) (zw_l (fun y9 => zw_d (fun a10 => zw_c (wX6_hasUnthanked (ztr rfl hM)  h1) (fun r11 z12 h2 => zw_i (zw_l (fun y16 => zw_d (fun a17 => zw_i (zw_s h2) (zw_l (fun y19 => zw_d (fun a20 => zw_c (wX6_hasNew (ztr rfl hM)  h2) (fun r21 z22 h3 => zw_i (zw_s h3) (zw_l (fun y26 => zw_l (fun y27 => zw_d (fun a28 => zw_d (fun a29 => zw_lI h3 (ztb hM rfl) (fun z30 h4 => zw_s h4))))))))))))) (zw_s h2)))))))))
def mX7_has : Nat := 0x0
theorem wX7_has {M : Nat} {N : Nat} {x0 : Nat} {x1 : Int32} {z0 z : St} (hM : mX7_has &&& M = mX7_has)  (h : zFr M z0 z) : zPw M z0 (fX7_has N x0 x1 z) := by
  unfold fX7_has
  exact zw_i (zw_s h) (zw_s h)
def mX7_resetFlags : Nat := 0x0
theorem wX7_resetFlags {M : Nat} {N : Nat} {x0 : Nat} {z0 z : St} (hM : mX7_resetFlags &&& M = mX7_resetFlags)  (h : zFr M z0 z) : zPw M z0 (fX7_resetFlags N x0 z) := by
  unfold fX7_resetFlags
  exact zw_c (wX7_has (ztr rfl hM)  h) (fun r1 z2 h1 => zw_i (zw_s h1) (zw_s h1))
def mX7_resetNumber : Nat := 0x0
theorem wX7_resetNumber {M : Nat} {N : Nat} {x0 : Nat} {z0 z : St} (hM : mX7_resetNumber &&& M = mX7_resetNumber)  (h : zFr M z0 z) : zPw M z0 (fX7_resetNumber N x0 z) := by
  unfold fX7_resetNumber
  exact zw_c (wX7_has (ztr rfl hM)  h) (fun r1 z2 h1 => zw_i (zw_s h1) (zw_s h1))
def mX7_size_33 : Nat := 0x0
theorem wX7_size_33 {M : Nat} {N : Nat} {x0 : Nat} {x1 : Int32} {z0 z : St} (hM : mX7_size_33 &&& M = mX7_size_33)  (h : zFr M z0 z) : zPw M z0 (fX7_size_33 N x0 x1 z) := by
  unfold fX7_size_33
  exact zw_i (zw_s h) (zw_s h)
def mX7_size_20 : Nat := 0x0
theorem wX7_size_20 {M : Nat} {N : Nat} {x0 : Nat} {s0 : Int32} {z0 z : St} (hM : mX7_size_20 &&& M = mX7_size_20)  (h : zFr M z0 z) : zPw M z0 (fX7_size_20 N x0 s0 z) := by
  unfold fX7_size_20
  exact zw_i (wX7_size_33 (ztr rfl hM)  h) (zw_l (fun v2 => wX7_size_33 (ztr rfl hM)  h))
def mX7_size : Nat := 0x0
theorem wX7_size {M : Nat} {N : Nat} {x0 : Nat} {z0 z : St} (hM : mX7_size &&& M = mX7_size)  (h : zFr M z0 z) : zPw M z0 (fX7_size N x0 z) := by
  unfold fX7_size
  exact zw_i (wX7_size_20 (ztr rfl hM)  h) (wX7_size_20 (ztr rfl hM)  h)
def mX7_resetThanked : Nat := 0x0
theorem wX7_resetThanked {M : Nat} {N : Nat} {x0 : Nat} {z0 z : St} (hM : mX7_resetThanked &&& M = mX7_resetThanked)  (h : zFr M z0 z) : zPw M z0 (fX7_resetThanked N x0 z) := by
  unfold fX7_resetThanked
  exact zw_c (wX7_has (ztr rfl hM)  h) (fun r1 z2 h1 => zw_i (zw_c (wX7_size (ztr rfl hM)  h1) (fun r6 z7 h2 => zw_s h2)) (zw_s h1))
def mX3_resets : Nat := 0x1e0000000000000000000000000000000000000000000000000
theorem wX3_resets {M : Nat} {N : Nat} {x0 : Nat} {x1 : Nat} {z0 z : St} (hM : mX3_resets &&& M = mX3_resets)  (h : zFr M z0 z) : zPw M z0 (fX3_resets N x0 x1 z) := by
  unfold fX3_resets
  exact zw_c (wX7_has (ztr rfl hM)  h) (fun r1 z2 h1 => zw_i (zw_lI h1 (ztb hM rfl) (fun z6 h2 => zw_c (wX7_resetFlags (ztr rfl hM)  h2) (fun r7 z8 h3 => zw_lI h3 (ztb hM rfl) (fun z11 h4 => zw_c (wX7_resetNumber (ztr rfl hM)  h4) (fun r12 z13 h5 => zw_lI h5 (ztb hM rfl) (fun z16 h6 => zw_c (wX7_resetThanked (ztr rfl hM)  h6) (fun r17 z18 h7 => zw_lI h7 (ztb hM rfl) (fun z21 h8 => zw_s h8)))))))) (zw_s h1))
def mX6_tellWindow : Nat := 0x3800000000000000000000000000000000000000000000000000000000000000000000000000000000000000000000000000
theorem wX6_tellWindow {M : Nat} {N : Nat} {x0 : Nat} {x1 : Nat} {x2 : Int32} {z0 z : St} (hM : mX6_tellWindow &&& M = mX6_tellWindow)  (h : zFr M z0 z) : zPw M z0 (fX6_tellWindow N x0 x1 x2 z) := by
  unfold fX6_tellWindow
  exact zw_lI h (ztb hM rfl) (fun z1 h1 => zw_lI h1 (ztb hM rfl) (fun z2 h2 => zw_lI h2 (ztb hM rfl) (fun z3 h3 => zw_s h3)))
def mX3_takeOpen_68 : Nat := 0x3800000000000000000000000000000000000000000000008000000000000000000000000000000000000000000000000000
theorem wX3_takeOpen_68 {M : Nat} {N : Nat} {x0 : Nat} {x1 : Nat} {s0 : Option Nat} {s1 : Nat} {s2 : Int32} {z0 z : St} (hM : mX3_takeOpen_68 &&& M = mX3_takeOpen_68)  (h : zFr M z0 z) : zPw M z0 (fX3_takeOpen_68 N x0 x1 s0 s1 s2 z) := by
  unfold fX3_takeOpen_68
  exact zw_d (fun a1 => zw_c (wX6_tellWindow (ztr rfl hM)  h) (fun _ z3 h1 => zw_lI h1 (ztb hM rfl) (fun z6 h2 => zw_s h2)))
def mX3_takeOpen_34 : Nat := 0x3800000000000000000000000000000000000000000000008004000000000000000000000000000000000000000000000000
theorem wX3_takeOpen_34 {M : Nat} {N : Nat} {x0 : Nat} {x1 : Nat} {s0 : Nat} {s1 : Int32} {s2 : Int32} {z0 z : St} (hM : mX3_takeOpen_34 &&& M = mX3_takeOpen_34)  (h : zFr M z0 z) : zPw M z0 (fX3_takeOpen_34 N x0 x1 s0 s1 s2 z) := by
  unfold fX3_takeOpen_34
  exact zw_lI h (ztb hM rfl) (fun z1 h1 => zw_l (fun y2 => zw_c (wX7_has (ztr rfl hM)  h1) (fun r3 z4 h2 => zw_i (zw_l (fun y8 => zw_d (fun a9 => wX3_takeOpen_68 (ztr rfl hM)  h2))) (wX3_takeOpen_68 (ztr rfl hM)  h2))))
def mX3_takeOpen : Nat := 0x3800000000000000000000000000000000100000000000008004000000000000000000000000000000000000000000000000
theorem wX3_takeOpen {M : Nat} {N : Nat} {x0 : Nat} {x1 : Nat} {z0 z : St} (hM : mX3_takeOpen &&& M = mX3_takeOpen)  (h : zFr M z0 z) : zPw M z0 (fX3_takeOpen N x0 x1 z) := by
  unfold fX3_takeOpen
  exact zw_l (fun v1 => zw_l (fun y2 => zw_d (fun a3 => zw_lI h (ztb hM rfl) (fun z4 h1 => zw_i (wX3_takeOpen_34 (ztr rfl hM)  h1) (wX3_takeOpen_34 (ztr rfl hM)  h1)))))
def mX3_takeListening : Nat := 0x38400000000000000000000000000000001000000000000083e5000000000000000000000000000000000000000000000000
theorem wX3_takeListening {M : Nat} {N : Nat} {x0 : Nat} {x1 : Nat} {z0 z : St} (hM : mX3_takeListening &&& M = mX3_takeListening)  (h : zFr M z0 z) : zPw M z0 (fX3_takeListening N x0 x1 z) := by
  unfold fX3_takeListening
  exact zw_c (wX7_has (ztr rfl hM)  h) (fun r1 z2 h1 => zw_i (zw_c (wX7_has (ztr rfl hM)  h1) (fun r6 z7 h2 => zw_i (zw_c (wX7_has (ztr rfl hM)  h2) (fun r11 z12 h3 => zw_i (zw_c (wX3_takeOpen (ztr rfl hM)  h3) (fun _ z17 h4 => zw_lI h4 (ztb hM rfl) (fun z20 h5 => zw_l (fun y21 => zw_l (fun y22 => zw_d (fun a23 => zw_d (fun a24 => zw_lI h5 (ztb hM rfl) (fun z25 h6 => zw_lI h6 (ztb hM rfl) (fun z26 h7 => zw_s h7))))))))) (zw_s h3))) (zw_c (wX3_resets (ztr rfl hM)  h2) (fun _ z28 h8 => zw_s h8)))) (zw_s h1))
def mX11_isBefore : Nat := 0x0
theorem wX11_isBefore {M : Nat} {N : Nat} {x0 : Int32} {x1 : Int32} {z0 z : St} (hM : mX11_isBefore &&& M = mX11_isBefore)  (h : zFr M z0 z) : zPw M z0 (fX11_isBefore N x0 x1 z) := by
  unfold fX11_isBefore
  exact zw_i (zw_s h) (zw_s h)
def mX10_thanked_109 : Nat := 0x40000000000000000000000000000000000000000000000000000000000000000000000000000000000000000000000000000000000000000000000000000000000000000000000000000000000000000
theorem wX10_thanked_109 {M : Nat} {N : Nat} {x0 : Nat} {z0 z : St} (hM : mX10_thanked_109 &&& M = mX10_thanked_109)  (h : zFr M z0 z) : zPw M z0 (fX10_thanked_109 N x0 z) := by
  unfold fX10_thanked_109
  exact zw_lI h (ztb hM rfl) (fun z1 h1 => zw_s h1)
def mX10_thanked : Nat := 0x7e0000000000000000000000000000000000000000000000000000000000000000000000000000000000000000000000000000000000000000000000000000000000000000000000000000000000000000
theorem wX10_thanked {M : Nat} {N : Nat} {x0 : Nat} {x1 : Int32} {x2 : Int32} {z0 z : St} (hM : mX10_thanked &&& M = mX10_thanked)  (h : zFr M z0 z) : zPw M z0 (fX10_thanked N x0 x1 x2 z) := by
  unfold fX10_thanked
  exact zw_lI h (ztb hM rfl) (fun z1 h1 => zw_i (zw_s h1) (zw_c (wX11_isBefore (ztr rfl hM)  h1) (fun r3 z4 h2 => zw_i (zw_lI h2 (ztb hM rfl) (fun z8 h3 => zw_l (fun v9 => zw_i (zw_lI h3 (ztb hM rfl) (fun z11 h4 => zw_lI h4 (ztb hM rfl) (fun z12 h5 => zw_lI h5 (ztb hM rfl) (fun z13 h6 => wX10_thanked_109 (ztr rfl hM)  h6)))) (zw_l (fun v14 => zw_lI h3 (ztb hM rfl) (fun z15 h7 => zw_lI h7 (ztb hM rfl) (fun z16 h8 => wX10_thanked_109 (ztr rfl hM)  h8))))))) (zw_s h2))))
def mX6_thankTo_27 : Nat := 0x40e000000000000000000000000000000000000000000000000000000000000000000000000000000000000000000000000
theorem wX6_thankTo_27 {M : Nat} {N : Nat} {x0 : Nat} {x2 : Int32} {z0 z : St} (hM : mX6_thankTo_27 &&& M = mX6_thankTo_27)  (h : zFr M z0 z) : zPw M z0 (fX6_thankTo_27 N x0 x2 z) := by
  unfold fX6_thankTo_27
  exact zw_l (fun v1 => zw_lI h (ztb hM rfl) (fun z2 h1 => zw_lI h1 (ztb hM rfl) (fun z3 h2 => zw_lI h2 (ztb hM rfl) (fun z4 h3 => zw_i (zw_s h3) (zw_i (zw_s h3) (zw_lI h3 (ztb hM rfl) (fun z7 h4 => zw_s h4)))))))
def mX6_thankTo : Nat := 0x4ae000000000000000000000000000000000000000000000000000000000000000000000000000000000000000000000000
theorem wX6_thankTo {M : Nat} {N : Nat} {x0 : Nat} {x1 : Int32} {z0 z : St} (hM : mX6_thankTo &&& M = mX6_thankTo)  (h : zFr M z0 z) : zPw M z0 (fX6_thankTo N x0 x1 z) := by
  unfold fX6_thankTo
  exact zw_l (fun v1 => zw_lI h (ztb hM rfl) (fun z2 h1 => zw_i (wX6_thankTo_27 (ztr rfl hM)  h1) (zw_lI h1 (ztb hM rfl) (fun z4 h2 => zw_l (fun v5 => wX6_thankTo_27 (ztr rfl hM)  h2)))))
def mX3_thankedTo_44 : Nat := 0x10000000000000000000000000000000000000000000000000000000000000000000000000000000000000000000000000000000000000800000000000000000000000000000000000000000000000000
theorem wX3_thankedTo_44 {M : Nat} {N : Nat} {x0 : Nat} {s0 : Option Nat} {s1 : Int32} {z0 z : St} (hM : mX3_thankedTo_44 &&& M = mX3_thankedTo_44)  (h : zFr M z0 z) : zPw M z0 (fX3_thankedTo_44 N x0 s0 s1 z) := by
  unfold fX3_thankedTo_44
  exact zw_d (fun a1 => zw_lI h (ztb hM rfl) (fun z2 h1 => zw_lI h1 (ztb hM rfl) (fun z3 h2 => zw_s h2)))
def mX3_thankedTo : Nat := 0x7f00000000000000000000000000000000000000000000000000000000000004ae000000000000000000000000000000000000000000000800000000000000000000000000000000000000000000000000
theorem wX3_thankedTo {M : Nat} {N : Nat} {x0 : Nat} {x1 : Int32} {x2 : Int32} {z0 z : St} (hM : mX3_thankedTo &&& M = mX3_thankedTo)  (h : zFr M z0 z) : zPw M z0 (fX3_thankedTo N x0 x1 x2 z) := by
  unfold fX3_thankedTo
  exact zw_l (fun y1 => zw_d (fun a2 => zw_c (wX6_thankTo (ztr rfl hM)  h) (fun _ z4 h1 => zw_l (fun y7 => zw_d (fun a8 => zw_c (wX10_thanked (ztr rfl hM)  h1) (fun _ z10 h2 => zw_l (fun y13 => zw_l (fun y14 => zw_d (fun a15 => zw_c (wX6_hasUnthanked (ztr rfl hM)  h2) (fun r16 z17 h3 => zw_i (wX3_thankedTo_44 (ztr rfl hM)  h3) (zw_l (fun y21 => zw_d (fun a22 => wX3_thankedTo_44 (ztr rfl hM)  h3)))))))))))))
def mX3_takeAsking_31 : Nat := 0x7f0000000000000000000000000000000000000000000000000000000000003cae00000000000000000000000000000010000000000000ba05000000000000000000000000000000000000000000000000
theorem wX3_takeAsking_31 {M : Nat} {N : Nat} {x0 : Nat} {x1 : Nat} {x2 : Int32} {x3 : Int32} {z0 z : St} (hM : mX3_takeAsking_31 &&& M = mX3_takeAsking_31)  (h : zFr M z0 z) : zPw M z0 (fX3_takeAsking_31 N x0 x1 x2 x3 z) := by
  unfold fX3_takeAsking_31
  exact zw_c (wX7_has (ztr rfl hM)  h) (fun r1 z2 h1 => zw_i (zw_c (wX7_has (ztr rfl hM)  h1) (fun r6 z7 h2 => zw_i (zw_c (wX3_takeOpen (ztr rfl hM)  h2) (fun _ z12 h3 => zw_i (zw_lI h3 (ztb hM rfl) (fun z16 h4 => zw_lI h4 (ztb hM rfl) (fun z17 h5 => zw_s h5))) (zw_lI h3 (ztb hM rfl) (fun z18 h6 => zw_lI h6 (ztb hM rfl) (fun z19 h7 => zw_c (wX3_thankedTo (ztr rfl hM)  h7) (fun _ z21 h8 => zw_lI h8 (ztb hM rfl) (fun z24 h9 => zw_s h9))))))) (zw_s h2))) (zw_i (zw_s h1) (zw_c (wX3_finish (ztr rfl hM)  h1) (fun _ z27 h10 => zw_s h10))))
def mX3_takeAsking : Nat := 0x7f0000000000000000000000000000000000000000000000000000000000003cae00000000000000000000000000000010000000000000bbe5000000000000000000000000000000000000000000000000
theorem wX3_takeAsking {M : Nat} {N : Nat} {x0 : Nat} {x1 : Nat} {x2 : Int32} {z0 z : St} (hM : mX3_takeAsking &&& M = mX3_takeAsking)  (h : zFr M z0 z) : zPw M z0 (fX3_takeAsking N x0 x1 x2 z) := by
  unfold fX3_takeAsking
  exact zw_c (wX7_has (ztr rfl hM)  h) (fun r1 z2 h1 => zw_i (wX3_takeAsking_31 (ztr rfl hM)  h1) (zw_l (fun y6 => zw_d (fun a7 => zw_i (wX3_takeAsking_31 (ztr rfl hM)  h1) (zw_c (wX3_resets (ztr rfl hM)  h1) (fun _ z10 h2 => zw_s h2))))))
def mX3_takeReset_54 : Nat := 0x10000000000000000000000000000000000000000000000000000000000000000000000000000000000000000000000000000000000003a01000000000000000000000000000000000000000000000000
theorem wX3_takeReset_54 {M : Nat} {N : Nat} {s0 : Nat} {s1 : Int32} {z0 z : St} (hM : mX3_takeReset_54 &&& M = mX3_takeReset_54)  (h : zFr M z0 z) : zPw M z0 (fX3_takeReset_54 N s0 s1 z) := by
  unfold fX3_takeReset_54
  exact zw_c (wX3_finish (ztr rfl hM)  h) (fun _ z2 h1 => zw_s h1)
def mX3_takeReset_52 : Nat := 0x10000000000000000000000000000000000000000000000000000000000000000000000000000000000000000000000000000000000003a01000000000000000000000000000000000000000000000000
theorem wX3_takeReset_52 {M : Nat} {N : Nat} {s0 : Nat} {z0 z : St} (hM : mX3_takeReset_52 &&& M = mX3_takeReset_52)  (h : zFr M z0 z) : zPw M z0 (fX3_takeReset_52 N s0 z) := by
  unfold fX3_takeReset_52
  exact wX3_takeReset_54 (ztr rfl hM)  h
def mX3_takeReset_29 : Nat := 0x10000000000000000000000000000000000000000000000000000000000000000000000000000000000000000000000000000000000003a01000000000000000000000000000000000000000000000000
theorem wX3_takeReset_29 {M : Nat} {N : Nat} {x0 : Nat} {z0 z : St} (hM : mX3_takeReset_29 &&& M = mX3_takeReset_29)  (h : zFr M z0 z) : zPw M z0 (fX3_takeReset_29 N x0 z) := by
  unfold fX3_takeReset_29
  exact zw_i (wX3_takeReset_52 (ztr rfl hM)  h) (zw_i (wX3_takeReset_52 (ztr rfl hM)  h) (wX3_takeReset_54 (ztr rfl hM)  h))
def mX3_takeReset : Nat := 0x200000000000000000000000000000000000000000000000000000000000000000000000000000000000000000000000000000000000000000000000000000000000000000000000000000000000000000007f0000000000000000000000000000000000000000000000000000000000003ffe000000000000000000000000000000fc000000000000be15000000000000000000000000000000000000000000000000
theorem wX3_takeReset {M : Nat} {N : Nat} {x0 : Nat} {z0 z : St} (hM : mX3_takeReset &&& M = mX3_takeReset)  (h : zFr M z0 z) : zPw M z0 (fX3_takeReset N x0 z) := by
  unfold fX3_takeReset
  exact zw_i (wX3_takeReset_29 (ztr rfl hM)  h) (zw_i (wX3_takeReset_29 (ztr rfl hM)  h) (zw_l (fun y3 => zw_d (fun a4 => zw_c (wX3_beginAgain (ztr rfl hM)  h) (fun _ z6 h1 => zw_s h1)))))
def mX4_fits_27 : Nat := 0x0
theorem wX4_fits_27 {M : Nat} {N : Nat} {z0 z : St} (hM : mX4_fits_27 &&& M = mX4_fits_27)  (h : zFr M z0 z) : zPw M z0 (fX4_fits_27 N z) := by
  unfold fX4_fits_27
  exact zw_s h
def mX4_fits : Nat := 0x0
theorem wX4_fits {M : Nat} {N : Nat} {x0 : Nat} {x1 : Int32} {x2 : Int32} {z0 z : St} (hM : mX4_fits &&& M = mX4_fits)  (h : zFr M z0 z) : zPw M z0 (fX4_fits N x0 x1 x2 z) := by
  unfold fX4_fits
  exact zw_l (fun v1 => zw_i (zw_i (zw_c (wX4_room (ztr rfl hM)  h) (fun r4 z5 h1 => zw_i (zw_s h1) (zw_i (zw_s h1) (zw_s h1)))) (zw_c (wX4_room (ztr rfl hM)  h) (fun r10 z11 h2 => zw_i (zw_s h2) (zw_s h2)))) (zw_i (wX4_fits_27 (ztr rfl hM)  h) (zw_i (zw_s h) (zw_c (wX4_room (ztr rfl hM)  h) (fun r17 z18 h3 => zw_i (zw_s h3) (wX4_fits_27 (ztr rfl hM)  h3))))))
def mX3_goesOn_31 : Nat := 0x10000000000000000000000000000000000000000000000000
theorem wX3_goesOn_31 {M : Nat} {N : Nat} {x0 : Nat} {x1 : Nat} {x2 : Int32} {z0 z : St} (hM : mX3_goesOn_31 &&& M = mX3_goesOn_31)  (h : zFr M z0 z) : zPw M z0 (fX3_goesOn_31 N x0 x1 x2 z) := by
  unfold fX3_goesOn_31
  exact zw_i (zw_s h) (zw_c (wX7_has (ztr rfl hM)  h) (fun r2 z3 h1 => zw_i (zw_s h1) (zw_lI h1 (ztb hM rfl) (fun z7 h2 => zw_s h2))))
def mX3_goesOn_166 : Nat := 0x201000000000000000000000000000000000000000000000000
theorem wX3_goesOn_166 {M : Nat} {N : Nat} {x0 : Nat} {s0 : Nat} {s1 : Int32} {z0 z : St} (hM : mX3_goesOn_166 &&& M = mX3_goesOn_166)  (h : zFr M z0 z) : zPw M z0 (fX3_goesOn_166 N x0 s0 s1 z) := by
  unfold fX3_goesOn_166
  exact zw_lI h (ztb hM rfl) (fun z1 h1 => zw_lI h1 (ztb hM rfl) (fun z2 h2 => zw_s h2))
def mX3_goesOn : Nat := 0x200000000000000000000000000000000000000000000000000000000000000000000000000000000000000000000000000000000000000000000000000000000000000000000000000000000000000000007f0000000000000000000000000000000000000000000000000000000000003ffe000000000000000000000000000000fc000000000000bff5000000000000000000000000000000000000000000000000
theorem wX3_goesOn {M : Nat} {N : Nat} {x0 : Nat} {x1 : Nat} {x2 : Int32} {z0 z : St} (hM : mX3_goesOn &&& M = mX3_goesOn)  (h : zFr M z0 z) : zPw M z0 (fX3_goesOn N x0 x1 x2 z) := by
  unfold fX3_goesOn
  exact zw_l (fun y1 => zw_c (wX7_size (ztr rfl hM)  h) (fun r2 z3 h1 => zw_d (fun a6 => zw_c (wX4_fits (ztr rfl hM)  h1) (fun r7 z8 h2 => zw_i (zw_c (wX7_has (ztr rfl hM)  h2) (fun r12 z13 h3 => zw_i (zw_c (wX7_has (ztr rfl hM)  h3) (fun r17 z18 h4 => zw_i (zw_c (wX7_has (ztr rfl hM)  h4) (fun r22 z23 h5 => zw_i (zw_i (zw_l (fun y28 => zw_d (fun a29 => zw_c (wX11_isBefore (ztr rfl hM)  h5) (fun r30 z31 h6 => zw_i (zw_s h6) (zw_lI h6 (ztb hM rfl) (fun z35 h7 => zw_s h7)))))) (zw_l (fun y36 => zw_d (fun a37 => zw_i (zw_l (fun y39 => zw_d (fun a40 => zw_i (wX3_goesOn_166 (ztr rfl hM)  h5) (wX3_goesOn_166 (ztr rfl hM)  h5)))) (zw_c (wX3_resets (ztr rfl hM)  h5) (fun _ z43 h8 => zw_s h8)))))) (zw_s h5))) (zw_lI h4 (ztb hM rfl) (fun z46 h9 => zw_s h9)))) (zw_l (fun y47 => zw_d (fun a48 => zw_i (zw_lI h3 (ztb hM rfl) (fun z50 h10 => zw_s h10)) (zw_c (wX3_takeReset (ztr rfl hM)  h3) (fun _ z52 h11 => zw_s h11))))))) (zw_c (wX7_has (ztr rfl hM)  h2) (fun r55 z56 h12 => zw_i (wX3_goesOn_31 (ztr rfl hM)  h12) (zw_lI h12 (ztb hM rfl) (fun z60 h13 => wX3_goesOn_31 (ztr rfl hM)  h13))))))))
def mX3_peerLeft : Nat := 0x10000000000000000000000000000000000000000000000000000000000000000000000000000000000000000000000000000000000003a11000000000000000000000000000000000000000000000000
theorem wX3_peerLeft {M : Nat} {N : Nat} {x0 : Nat} {x1 : Int32} {z0 z : St} (hM : mX3_peerLeft &&& M = mX3_peerLeft)  (h : zFr M z0 z) : zPw M z0 (fX3_peerLeft N x0 x1 z) := by
  unfold fX3_peerLeft
  exact zw_i (zw_i (zw_c (wX3_becomeQuiet (ztr rfl hM)  h) (fun _ z4 h1 => zw_s h1)) (zw_lI h (ztb hM rfl) (fun z7 h2 => zw_s h2))) (zw_lI h (ztb hM rfl) (fun z8 h3 => zw_s h3))
def mX3_takeWindow_121 : Nat := 0x10000000000000000000000000000000000000000000000000000000000000000000000000000000000000000000000000000000000001000000000000000000000000000000000000000000000000000
theorem wX3_takeWindow_121 {M : Nat} {N : Nat} {x0 : Nat} {x5 : Int32} {z0 z : St} (hM : mX3_takeWindow_121 &&& M = mX3_takeWindow_121)  (h : zFr M z0 z) : zPw M z0 (fX3_takeWindow_121 N x0 x5 z) := by
  unfold fX3_takeWindow_121
  exact zw_l (fun y1 => zw_d (fun a2 => zw_i (zw_s h) (zw_i (zw_s h) (zw_lI h (ztb hM rfl) (fun z5 h1 => zw_l (fun y6 => zw_d (fun a7 => zw_c (wX6_hasUnthanked (ztr rfl hM)  h1) (fun r8 z9 h2 => zw_i (zw_s h2) (zw_l (fun y13 => zw_d (fun a14 => zw_lI h2 (ztb hM rfl) (fun z15 h3 => zw_s h3))))))))))))
def mX3_takeWindow_113 : Nat := 0x30000000000000000000000000000000000000000000000000000000000000000000000000000000000000000000000000000000000001000000000000000000000000000000000000000000000000000
theorem wX3_takeWindow_113 {M : Nat} {N : Nat} {x0 : Nat} {x5 : Int32} {z0 z : St} (hM : mX3_takeWindow_113 &&& M = mX3_takeWindow_113)  (h : zFr M z0 z) : zPw M z0 (fX3_takeWindow_113 N x0 x5 z) := by
  unfold fX3_takeWindow_113
  exact zw_l (fun y1 => zw_d (fun a2 => zw_lI h (ztb hM rfl) (fun z3 h1 => wX3_takeWindow_121 (ztr rfl hM)  h1)))
def mX3_takeWindow_87 : Nat := 0x30000000000000000000000000000000000000000000000000000000000003800000000000000000000000000000000000000000000001000000000000000000000000000000000000000000000000000
theorem wX3_takeWindow_87 {M : Nat} {N : Nat} {x0 : Nat} {x1 : Nat} {x2 : Int32} {s0 : Int32} {z0 z : St} (hM : mX3_takeWindow_87 &&& M = mX3_takeWindow_87)  (h : zFr M z0 z) : zPw M z0 (fX3_takeWindow_87 N x0 x1 x2 s0 z) := by
  unfold fX3_takeWindow_87
  exact zw_l (fun y1 => zw_d (fun a2 => zw_c (wX6_tellWindow (ztr rfl hM)  h) (fun _ z4 h1 => zw_l (fun y7 => zw_d (fun a8 => zw_i (wX3_takeWindow_113 (ztr rfl hM)  h1) (zw_i (wX3_takeWindow_121 (ztr rfl hM)  h1) (wX3_takeWindow_113 (ztr rfl hM)  h1)))))))
def mX3_takeWindow_64 : Nat := 0x30000000000000000000000000000000000000000000000000000000000003800000000000000000000000000000000000000000000001000000000000000000000000000000000000000000000000000
theorem wX3_takeWindow_64 {M : Nat} {N : Nat} {x0 : Nat} {x1 : Nat} {x2 : Int32} {s0 : Int32} {z0 z : St} (hM : mX3_takeWindow_64 &&& M = mX3_takeWindow_64)  (h : zFr M z0 z) : zPw M z0 (fX3_takeWindow_64 N x0 x1 x2 s0 z) := by
  unfold fX3_takeWindow_64
  exact zw_i (zw_l (fun y2 => zw_d (fun a3 => zw_i (wX3_takeWindow_87 (ztr rfl hM)  h) (wX3_takeWindow_87 (ztr rfl hM)  h)))) (zw_s h)
def mX3_takeWindow_59 : Nat := 0x30000000000000000000000000000000000000000000000000000000000003800000000000000000000000000000000000000000000001000000000000000000000000000000000000000000000000000
theorem wX3_takeWindow_59 {M : Nat} {N : Nat} {x0 : Nat} {x1 : Nat} {x2 : Int32} {z0 z : St} (hM : mX3_takeWindow_59 &&& M = mX3_takeWindow_59)  (h : zFr M z0 z) : zPw M z0 (fX3_takeWindow_59 N x0 x1 x2 z) := by
  unfold fX3_takeWindow_59
  exact wX3_takeWindow_64 (ztr rfl hM)  h
def mX3_takeWindow_63 : Nat := 0x30000000000000000000000000000000000000000000000000000000000003800000000000000000000000000000000000000000000001000000000000000000000000000000000000000000000000000
theorem wX3_takeWindow_63 {M : Nat} {N : Nat} {x0 : Nat} {x1 : Nat} {x2 : Int32} {z0 z : St} (hM : mX3_takeWindow_63 &&& M = mX3_takeWindow_63)  (h : zFr M z0 z) : zPw M z0 (fX3_takeWindow_63 N x0 x1 x2 z) := by
  unfold fX3_takeWindow_63
  exact wX3_takeWindow_64 (ztr rfl hM)  h
def mX3_takeWindow : Nat := 0x30000000000000000000000000000000000000000000000000000000000003800000000000000000000000000000000000000000000001000000000000000000000000000000000000000000000000000
theorem wX3_takeWindow {M : Nat} {N : Nat} {x0 : Nat} {x1 : Nat} {x2 : Int32} {z0 z : St} (hM : mX3_takeWindow &&& M = mX3_takeWindow)  (h : zFr M z0 z) : zPw M z0 (fX3_takeWindow N x0 x1 x2 z) := by
  unfold fX3_takeWindow
  exact zw_l (fun v1 => zw_l (fun y2 => zw_d (fun a3 => zw_c (wX11_isBefore (ztr rfl hM)  h) (fun r4 z5 h1 => zw_i (zw_l (fun y9 => zw_d (fun a10 => zw_c (wX11_isBefore (ztr rfl hM)  h1) (fun r11 z12 h2 => zw_i (wX3_takeWindow_59 (ztr rfl hM)  h2) (zw_l (fun y16 => zw_d (fun a17 => zw_i (wX3_takeWindow_63 (ztr rfl hM)  h2) (zw_l (fun y19 => zw_d (fun a20 => zw_c (wX11_isBefore (ztr rfl hM)  h2) (fun r21 z22 h3 => zw_i (wX3_takeWindow_63 (ztr rfl hM)  h3) (wX3_takeWindow_59 (ztr rfl hM)  h3)))))))))))) (zw_s h1)))))
def mX4_goOn_43 : Nat := 0x20000000000000000000000000000000000000000000000000000000000000000000000000000000000000000000000000000000000000000000000000000000000000000000000000000000000000000000000000000000000000000000000000000000000000000000000000000000000000000000000000000000000000000000180000000000000000000000000000000000000000000000000000000000000000
theorem wX4_goOn_43 {M : Nat} {N : Nat} {K2 : Nat → Int32 → St → Option (Int32 × St)} {x0 : Nat} {x1 : Int32} {z0 z : St} (hM : mX4_goOn_43 &&& M = mX4_goOn_43)  (hK2 : ∀ a0 a1 a2, zFr M z0 a2 → zPw M z0 (K2 a0 a1 a2)) (h : zFr M z0 z) : zPw M z0 (fX4_goOn_43 N K2 x0 x1 z) := by
  unfold fX4_goOn_43
  exact zw_l (fun v1 => zw_i (zw_s h) (zw_k (zw_i (zw_k (zw_lA h (ztb hM rfl) (fun z6 h1 => zw_lI h1 (ztb hM rfl) (fun z7 h2 => zw_lI h2 (ztb hM rfl) (fun z8 h3 => zw_l (fun v9 => hK2 _ _ _ h3)))))) (zw_s h))))
def mX4_goOn_2b : Nat := 0x20000000000000000000000000000000000000000000000000000000000000000000000000000000000000000000000000000000000000000000000000000000000000000000000000000000000000000000000000000000000000000000000000000000000000000000000000000000000000000000000000000000000000000000980000000000000000000000000000000000000000000000000000000000000000
theorem wX4_goOn_2b {M : Nat} {N : Nat} {K2 : Nat → Int32 → St → Option (Int32 × St)} {x0 : Nat} {x1 : Int32} {z0 z : St} (hM : mX4_goOn_2b &&& M = mX4_goOn_2b)  (hK2 : ∀ a0 a1 a2, zFr M z0 a2 → zPw M z0 (K2 a0 a1 a2)) (h : zFr M z0 z) : zPw M z0 (fX4_goOn_2b N K2 x0 x1 z) := by
  unfold fX4_goOn_2b
  exact zw_i (zw_s h) (zw_i (wX4_goOn_43 (ztr rfl hM) hK2 h) (zw_i (wX4_goOn_43 (ztr rfl hM) hK2 h) (zw_lI h (ztb hM rfl) (fun z4 h1 => zw_lI h1 (ztb hM rfl) (fun z5 h2 => zw_s h2)))))
def mX4_goOn_2 : Nat := 0x20000000000000000000000000000000000000000000000000000000000000000000000000000000000000000000000000000000000000000000000000000000000000000000000000000000000000000000000000000000000000000000000000000000000000000000000000000000000000000000000000000000000000000000980000000000000000000000000000000000000000000000000000000000000000
theorem wX4_goOn_2 {M : Nat} {z0 : St} {N : Nat}(hM : mX4_goOn_2 &&& M = mX4_goOn_2)  : ∀ (n : Nat) (y0 : Nat) (y1 : Int32) (z : St), zFr M z0 z → zPw M z0 (fX4_goOn_2 N n y0 y1 z) := by
  intro n
  induction n with
  | zero => intro y0 y1 z h; exact zw_n
  | succ n ih => intro y0 y1 z h; exact wX4_goOn_2b (ztr rfl hM)  (fun _ _ _ h => ih _ _ _ h) h
def mX4_goOn : Nat := 0x20000000000000000000000000000000000000000000000000000000000000000000000000000000000000000000000000000000000000000000000000000000000000000000000000000000000000000000000000000000000000000000000000000000000000000000000000000000000000000000000000000000000000000000980000000000000000000000000000000000000000000000000000000000000000
theorem wX4_goOn {M : Nat} {N : Nat} {x0 : Nat} {z0 z : St} (hM : mX4_goOn &&& M = mX4_goOn)  (h : zFr M z0 z) : zPw M z0 (fX4_goOn N x0 z) := by
  unfold fX4_goOn
  exact wX4_goOn_2 (ztr rfl hM)  _ _ _ _ h
def mX7_bytes : Nat := 0x0
theorem wX7_bytes {M : Nat} {N : Nat} {x0 : Nat} {z0 z : St} (hM : mX7_bytes &&& M = mX7_bytes)  (h : zFr M z0 z) : zPw M z0 (fX7_bytes N x0 z) := by
  unfold fX7_bytes
  exact zw_s h
def mX4_take_109 : Nat := 0x0
theorem wX4_take_109 {M : Nat} {N : Nat} {K24 : Nat → Nat → Int32 → Int32 → Int32 → Int32 → St → Option (Int32 × St)} {x0 : Nat} {x1 : Nat} {x2 : Int32} {x3 : Int32} {x4 : Int32} {x5 : Int32} {z0 z : St} (hM : mX4_take_109 &&& M = mX4_take_109)  (hK24 : ∀ a0 a1 a2 a3 a4 a5 a6, zFr M z0 a6 → zPw M z0 (K24 a0 a1 a2 a3 a4 a5 a6)) (h : zFr M z0 z) : zPw M z0 (fX4_take_109 N K24 x0 x1 x2 x3 x4 x5 z) := by
  unfold fX4_take_109
  exact zw_l (fun v1 => hK24 _ _ _ _ _ _ _ h)
def mX4_take_160 : Nat := 0x20000000000000000000000000000000000000000000000000000000000000000000000000000000000000000000000000000000000000000000000000000000000000000000000000000000000000000000000000000000000000000000000000000000000000000000000000000000000000000000000000000000000000000000980000000000000000000000000000000000000000000000000000000000000000
theorem wX4_take_160 {M : Nat} {N : Nat} {x0 : Nat} {z0 z : St} (hM : mX4_take_160 &&& M = mX4_take_160)  (h : zFr M z0 z) : zPw M z0 (fX4_take_160 N x0 z) := by
  unfold fX4_take_160
  exact zw_c (wX4_goOn (ztr rfl hM)  h) (fun _ z2 h1 => zw_s h1)
def mX4_take_24b : Nat := 0x30000000000000000000000000000000000000000000000000000000000000000000000000000000000000000000000000000000000000000000000000000000000000000000000000000000000000000000000000000000000000000000000000000000000000000000000000000000000000000000000000000000000000000000f80000000000000000000000000000000000000000000000000000000000000000
theorem wX4_take_24b {M : Nat} {N : Nat} {K24 : Nat → Nat → Int32 → Int32 → Int32 → Int32 → St → Option (Int32 × St)} {x0 : Nat} {x1 : Nat} {x2 : Int32} {x3 : Int32} {x4 : Int32} {x5 : Int32} {z0 z : St} (hM : mX4_take_24b &&& M = mX4_take_24b)  (hK24 : ∀ a0 a1 a2 a3 a4 a5 a6, zFr M z0 a6 → zPw M z0 (K24 a0 a1 a2 a3 a4 a5 a6)) (h : zFr M z0 z) : zPw M z0 (fX4_take_24b N K24 x0 x1 x2 x3 x4 x5 z) := by
  unfold fX4_take_24b
  exact zw_i (zw_c (wX7_has (ztr rfl hM)  h) (fun r2 z3 h1 => zw_i (wX4_take_160 (ztr rfl hM)  h1) (zw_i (wX4_take_160 (ztr rfl hM)  h1) (zw_i (wX4_take_160 (ztr rfl hM)  h1) (zw_i (wX4_take_160 (ztr rfl hM)  h1) (zw_lI h1 (ztb hM rfl) (fun z10 h2 => zw_lI h2 (ztb hM rfl) (fun z11 h3 => wX4_take_160 (ztr rfl hM)  h3)))))))) (zw_i (wX4_take_109 (ztr rfl hM) hK24 h) (zw_i (zw_l (fun v14 => zw_k (zw_i (zw_k (zw_lA h (ztb hM rfl) (fun z18 h4 => zw_k (zw_k (zw_lA h4 (ztb hM rfl) (fun z21 h5 => wX4_take_109 (ztr rfl hM) hK24 h5)))))) (wX4_take_109 (ztr rfl hM) hK24 h)))) (wX4_take_109 (ztr rfl hM) hK24 h)))
def mX4_take_24 : Nat := 0x30000000000000000000000000000000000000000000000000000000000000000000000000000000000000000000000000000000000000000000000000000000000000000000000000000000000000000000000000000000000000000000000000000000000000000000000000000000000000000000000000000000000000000000f80000000000000000000000000000000000000000000000000000000000000000
theorem wX4_take_24 {M : Nat} {z0 : St} {N : Nat}(hM : mX4_take_24 &&& M = mX4_take_24)  : ∀ (n : Nat) (y0 : Nat) (y1 : Nat) (y2 : Int32) (y3 : Int32) (y4 : Int32) (y5 : Int32) (z : St), zFr M z0 z → zPw M z0 (fX4_take_24 N n y0 y1 y2 y3 y4 y5 z) := by
  intro n
  induction n with
  | zero => intro y0 y1 y2 y3 y4 y5 z h; exact zw_n
  | succ n ih => intro y0 y1 y2 y3 y4 y5 z h; exact wX4_take_24b (ztr rfl hM)  (fun _ _ _ _ _ _ _ h => ih _ _ _ _ _ _ _ h) h
def mX4_take : Nat := 0x30000000000000000000000000000000000000000000000000000000000000000000000000000000000000000000000000000000000000000000000000000000000000000000000000000000000000000000000000000000000000000000000000000000000000000000000000000000000000000000000000000000000000000000f80000000000000000000000000000000000000000000000000000000000000000
theorem wX4_take {M : Nat} {N : Nat} {x0 : Nat} {x1 : Nat} {z0 z : St} (hM : mX4_take &&& M = mX4_take)  (h : zFr M z0 z) : zPw M z0 (fX4_take N x0 x1 z) := by
  unfold fX4_take
  exact zw_c (wX4_room (ztr rfl hM)  h) (fun r1 z2 h1 => zw_c (wX7_bytes (ztr rfl hM)  h1) (fun r5 z6 h2 => zw_l (fun v9 => wX4_take_24 (ztr rfl hM)  _ _ _ _ _ _ _ _ h2)))
def mX3_takeRest_135 : Nat := 0x2000000000000000000000000000000000000000000000000000
theorem wX3_takeRest_135 {M : Nat} {N : Nat} {x0 : Nat} {z0 z : St} (hM : mX3_takeRest_135 &&& M = mX3_takeRest_135)  (h : zFr M z0 z) : zPw M z0 (fX3_takeRest_135 N x0 z) := by
  unfold fX3_takeRest_135
  exact zw_lI h (ztb hM rfl) (fun z1 h1 => zw_s h1)
def mX3_takeRest_120 : Nat := 0x2000000000000000000000000000000000000000000000000000
theorem wX3_takeRest_120 {M : Nat} {N : Nat} {x0 : Nat} {x1 : Nat} {z0 z : St} (hM : mX3_takeRest_120 &&& M = mX3_takeRest_120)  (h : zFr M z0 z) : zPw M z0 (fX3_takeRest_120 N x0 x1 z) := by
  unfold fX3_takeRest_120
  exact zw_c (wX7_bytes (ztr rfl hM)  h) (fun r1 z2 h1 => zw_i (wX3_takeRest_135 (ztr rfl hM)  h1) (zw_c (wX7_has (ztr rfl hM)  h1) (fun r6 z7 h2 => zw_i (zw_s h2) (wX3_takeRest_135 (ztr rfl hM)  h2))))
def mX3_takeRest_90 : Nat := 0x30000000000000000000000000000000000000000000000000000000000000000000000000000000000000000000000000000000000000000000000000000000000000000000000000000000000000000000010000000000000000000000000000000000000000000000000000000000000000000000000000000000000000000000f80000000000003a11000000000000000000000000000000000000000000000000
theorem wX3_takeRest_90 {M : Nat} {N : Nat} {x0 : Nat} {x1 : Nat} {x2 : Int32} {z0 z : St} (hM : mX3_takeRest_90 &&& M = mX3_takeRest_90)  (h : zFr M z0 z) : zPw M z0 (fX3_takeRest_90 N x0 x1 x2 z) := by
  unfold fX3_takeRest_90
  exact zw_c (wX3_takesIn (ztr rfl hM)  h) (fun r1 z2 h1 => zw_i (wX3_takeRest_120 (ztr rfl hM)  h1) (zw_l (fun y6 => zw_d (fun a7 => zw_c (wX4_take (ztr rfl hM)  h1) (fun _ z9 h2 => zw_l (fun y12 => zw_d (fun a13 => zw_i (wX3_takeRest_120 (ztr rfl hM)  h2) (zw_c (wX3_peerLeft (ztr rfl hM)  h2) (fun _ z16 h3 => wX3_takeRest_120 (ztr rfl hM)  h3)))))))))
def mX3_takeRest_25 : Nat := 0x30000000000000000000000000000000000000000000000000000000000000000000000000000000000000000000000000000000000000000000000000000000000000000000000000000000000000000000030000000000000000000000000000000000000000000000000000000000003800000000000000000000000000000000f80000000000003a11000000000000000000000000000000000000000000000000
theorem wX3_takeRest_25 {M : Nat} {N : Nat} {x0 : Nat} {x1 : Nat} {x2 : Int32} {x3 : Int32} {z0 z : St} (hM : mX3_takeRest_25 &&& M = mX3_takeRest_25)  (h : zFr M z0 z) : zPw M z0 (fX3_takeRest_25 N x0 x1 x2 x3 z) := by
  unfold fX3_takeRest_25
  exact zw_c (wX3_takeWindow (ztr rfl hM)  h) (fun _ z2 h1 => zw_l (fun y5 => zw_d (fun a6 => zw_i (wX3_takeRest_90 (ztr rfl hM)  h1) (zw_i (zw_i (zw_i (wX3_takeRest_90 (ztr rfl hM)  h1) (zw_c (wX3_finish (ztr rfl hM)  h1) (fun _ z12 h2 => zw_s h2))) (zw_c (wX3_becomeQuiet (ztr rfl hM)  h1) (fun _ z16 h3 => wX3_takeRest_90 (ztr rfl hM)  h3))) (zw_lI h1 (ztb hM rfl) (fun z19 h4 => wX3_takeRest_90 (ztr rfl hM)  h4))))))
def mX3_takeRest : Nat := 0x300000000000000000000000000000000000000000000000000000000000000000000000000000000000000000000000000000000000000000000000000000000000000000000000000000000000000000007f0000000000000000000000000000000000000000000000000000000000003cae000000000000000000000000000000f80000000000003a11000000000000000000000000000000000000000000000000
theorem wX3_takeRest {M : Nat} {N : Nat} {x0 : Nat} {x1 : Nat} {x2 : Int32} {z0 z : St} (hM : mX3_takeRest &&& M = mX3_takeRest)  (h : zFr M z0 z) : zPw M z0 (fX3_takeRest N x0 x1 x2 z) := by
  unfold fX3_takeRest
  exact zw_l (fun v1 => zw_l (fun y2 => zw_d (fun a3 => zw_c (wX11_isBefore (ztr rfl hM)  h) (fun r4 z5 h1 => zw_i (wX3_takeRest_25 (ztr rfl hM)  h1) (zw_c (wX3_thankedTo (ztr rfl hM)  h1) (fun _ z10 h2 => wX3_takeRest_25 (ztr rfl hM)  h2))))))
def mX7_setLength : Nat := 0xc00000000000000000000000000000000000000000000000000000000000000000000000000000000000000000000000000000000000000000
theorem wX7_setLength {M : Nat} {N : Nat} {x0 : Nat} {x1 : Int32} {z0 z : St} (hM : mX7_setLength &&& M = mX7_setLength)  (h : zFr M z0 z) : zPw M z0 (fX7_setLength N x0 x1 z) := by
  unfold fX7_setLength
  exact zw_lI h (ztb hM rfl) (fun z1 h1 => zw_lI h1 (ztb hM rfl) (fun z2 h2 => zw_s h2))
def mX6_putBytes_16b : Nat := 0x200000000000000000000000000000000000000000000000000000000000000000000000000000000000000000000000000000000000000000000000000000000000000000000000000000000000000000000000000000000000000000000000000000000000000000000c00000000000000000000000000000000000000000000000000000000000000000000000000000000000000000000000000000000000000000
theorem wX6_putBytes_16b {M : Nat} {N : Nat} {K16 : Nat → Nat → Int32 → Int32 → Int32 → St → Option (Int32 × St)} {x0 : Nat} {x1 : Nat} {x2 : Int32} {x4 : Int32} {x5 : Int32} {z0 z : St} (hM : mX6_putBytes_16b &&& M = mX6_putBytes_16b)  (hK16 : ∀ a0 a1 a2 a3 a4 a5, zFr M z0 a5 → zPw M z0 (K16 a0 a1 a2 a3 a4 a5)) (h : zFr M z0 z) : zPw M z0 (fX6_putBytes_16b N K16 x0 x1 x2 x4 x5 z) := by
  unfold fX6_putBytes_16b
  exact zw_i (zw_c (wX7_setLength (ztr rfl hM)  h) (fun _ z3 h1 => zw_s h1)) (zw_k (zw_k (zw_lA h (ztb hM rfl) (fun z8 h2 => zw_l (fun v9 => hK16 _ _ _ _ _ _ h2)))))
def mX6_putBytes_16 : Nat := 0x200000000000000000000000000000000000000000000000000000000000000000000000000000000000000000000000000000000000000000000000000000000000000000000000000000000000000000000000000000000000000000000000000000000000000000000c00000000000000000000000000000000000000000000000000000000000000000000000000000000000000000000000000000000000000000
theorem wX6_putBytes_16 {M : Nat} {z0 : St} {N : Nat}(hM : mX6_putBytes_16 &&& M = mX6_putBytes_16)  : ∀ (n : Nat) (y0 : Nat) (y1 : Nat) (y2 : Int32) (y3 : Int32) (y4 : Int32) (z : St), zFr M z0 z → zPw M z0 (fX6_putBytes_16 N n y0 y1 y2 y3 y4 z) := by
  intro n
  induction n with
  | zero => intro y0 y1 y2 y3 y4 z h; exact zw_n
  | succ n ih => intro y0 y1 y2 y3 y4 z h; exact wX6_putBytes_16b (ztr rfl hM)  (fun _ _ _ _ _ _ h => ih _ _ _ _ _ _ h) h
def mX6_putBytes : Nat := 0x200000000000000000000000000000000000000000000000000000000000000000000000000000000000000000000000000000000000000000000000000000000000000000000000000000000000000000000000000000000000000000000000000000000000000000000c00000000000000000000000000000000000000000000000000000000000000000000000000000000000000000000000000000000000000000
theorem wX6_putBytes {M : Nat} {N : Nat} {x0 : Nat} {x1 : Nat} {x2 : Int32} {x3 : Int32} {z0 z : St} (hM : mX6_putBytes &&& M = mX6_putBytes)  (h : zFr M z0 z) : zPw M z0 (fX6_putBytes N x0 x1 x2 x3 z) := by
  unfold fX6_putBytes
  exact zw_l (fun v1 => wX6_putBytes_16 (ztr rfl hM)  _ _ _ _ _ _ _ h)
def mX7_beginSegment : Nat := 0x200000000000000000000000000000000000000000000000000000000000000000000000000000000000000000000000000000000000000000000000000000000000000000000000000000000000000000000000000000000000000000000000000000000000000000006f40000000000000000000000000000000000000000000000000000000000000000000000000000000000000000000000000000000000000000
theorem wX7_beginSegment {M : Nat} {N : Nat} {x0 : Nat} {x1 : Int32} {x2 : Int32} {x3 : Int32} {x4 : Int32} {z0 z : St} (hM : mX7_beginSegment &&& M = mX7_beginSegment)  (h : zFr M z0 z) : zPw M z0 (fX7_beginSegment N x0 x1 x2 x3 x4 z) := by
  unfold fX7_beginSegment
  exact zw_c (wX7_begin (ztr rfl hM)  h) (fun _ z2 h1 => zw_c (wX7_put4 (ztr rfl hM)  h1) (fun _ z6 h2 => zw_c (wX7_put4 (ztr rfl hM)  h2) (fun _ z10 h3 => zw_c (wX7_put2 (ztr rfl hM)  h3) (fun _ z14 h4 => zw_c (wX7_put2 (ztr rfl hM)  h4) (fun _ z18 h5 => zw_c (wX7_put2 (ztr rfl hM)  h5) (fun _ z22 h6 => zw_s h6))))))
def mX3_makeBytes_13 : Nat := 0x200000000000000000000000000000000000000000000000000000000000000000000000000000000000000000000000000000000000000000000000000000000000000000000000000000000000000000000000000000000000000000000000000000000000000000006f40000000000000000000000000000000000000000000000000000000000002000000000000000000000000000000000000000000000000000
theorem wX3_makeBytes_13 {M : Nat} {N : Nat} {x0 : Nat} {x1 : Nat} {x2 : Int32} {x3 : Int32} {x4 : Int32} {s0 : Nat} {s1 : Int32} {z0 z : St} (hM : mX3_makeBytes_13 &&& M = mX3_makeBytes_13)  (h : zFr M z0 z) : zPw M z0 (fX3_makeBytes_13 N x0 x1 x2 x3 x4 s0 s1 z) := by
  unfold fX3_makeBytes_13
  exact zw_l (fun y1 => zw_d (fun a2 => zw_l (fun y3 => zw_d (fun a4 => zw_c (wX4_room (ztr rfl hM)  h) (fun r5 z6 h1 => zw_c (wX7_beginSegment (ztr rfl hM)  h1) (fun _ z10 h2 => zw_l (fun y13 => zw_d (fun a14 => zw_c (wX6_putBytes (ztr rfl hM)  h2) (fun _ z16 h3 => zw_lI h3 (ztb hM rfl) (fun z19 h4 => zw_s h4))))))))))
def mX3_makeBytes : Nat := 0x200000000000000000000000000000000000000000000000000000000000000000000000000000000000000000000000000000000000000000000000000000000000000000000000000000000000000000000000000000000000000000000000000000000000000000006f40000000000000000000000000000000000000000000000000000000000002000000000000000000000000000000000000000000000000000
theorem wX3_makeBytes {M : Nat} {N : Nat} {x0 : Nat} {x1 : Nat} {x2 : Int32} {x3 : Int32} {x4 : Int32} {x5 : Int32} {z0 z : St} (hM : mX3_makeBytes &&& M = mX3_makeBytes)  (h : zFr M z0 z) : zPw M z0 (fX3_makeBytes N x0 x1 x2 x3 x4 x5 z) := by
  unfold fX3_makeBytes
  exact zw_i (wX3_makeBytes_13 (ztr rfl hM)  h) (wX3_makeBytes_13 (ztr rfl hM)  h)
def mX3_makeAgain_64 : Nat := 0x200000000000000000000000000000000000000000000000000000000000000000000000000000000000000000000000000000000000000000000000000000000000000000000000000000000000000000000000000000000000000000000000000000000000000000006f40000000000000000000000000000000000000000000000000000000000002000000000000000000000000000000000000000000000000000
theorem wX3_makeAgain_64 {M : Nat} {N : Nat} {x0 : Nat} {x1 : Nat} {x2 : Int32} {s0 : Int32} {z0 z : St} (hM : mX3_makeAgain_64 &&& M = mX3_makeAgain_64)  (h : zFr M z0 z) : zPw M z0 (fX3_makeAgain_64 N x0 x1 x2 s0 z) := by
  unfold fX3_makeAgain_64
  exact zw_l (fun y1 => zw_d (fun a2 => zw_c (wX3_makeBytes (ztr rfl hM)  h) (fun _ z4 h1 => zw_s h1)))
def mX3_makeAgain_63 : Nat := 0x200000000000000000000000000000000000000000000000000000000000000000000000000000000000000000000000000000000000000000000000000000000000000000000000000000000000000000000000000000000000000000000000000000000000000000006f40000000000000000000000000000000000000000000000000000000000002000000000000000000000000000000000000000000000000000
theorem wX3_makeAgain_63 {M : Nat} {N : Nat} {x0 : Nat} {x1 : Nat} {x2 : Int32} {z0 z : St} (hM : mX3_makeAgain_63 &&& M = mX3_makeAgain_63)  (h : zFr M z0 z) : zPw M z0 (fX3_makeAgain_63 N x0 x1 x2 z) := by
  unfold fX3_makeAgain_63
  exact wX3_makeAgain_64 (ztr rfl hM)  h
def mX3_makeAgain : Nat := 0x200000000000000000000000000000000000000000000000000000000000000000000000000000000000000000000000000000000000000000000000000000000000000000000000000000000000000000000400000000000000000000000000000000000000000000006f40000000000000000000000000000000000000000000000000000000000002800000000000000000000000000000000000000000000000000
theorem wX3_makeAgain {M : Nat} {N : Nat} {x0 : Nat} {x1 : Nat} {z0 z : St} (hM : mX3_makeAgain &&& M = mX3_makeAgain)  (h : zFr M z0 z) : zPw M z0 (fX3_makeAgain N x0 x1 z) := by
  unfold fX3_makeAgain
  exact zw_lI h (ztb hM rfl) (fun z1 h1 => zw_l (fun y2 => zw_d (fun a3 => zw_lI h1 (ztb hM rfl) (fun z4 h2 => zw_l (fun y5 => zw_d (fun a6 => zw_l (fun v7 => zw_l (fun y8 => zw_d (fun a9 => zw_i (wX3_makeAgain_63 (ztr rfl hM)  h2) (zw_l (fun y11 => zw_d (fun a12 => zw_i (wX3_makeAgain_63 (ztr rfl hM)  h2) (zw_l (fun y14 => zw_d (fun a15 => zw_i (wX3_makeAgain_63 (ztr rfl hM)  h2) (wX3_makeAgain_64 (ztr rfl hM)  h2))))))))))))))))
def mX10_sentNew_17 : Nat := 0x1c00000000000000000000000000000000000000000000000000000000000000000000000000000000000000000000000000000000000000000000000000000000000000000000000000000000000000000
theorem wX10_sentNew_17 {M : Nat} {N : Nat} {x0 : Nat} {x1 : Int32} {x2 : Int32} {z0 z : St} (hM : mX10_sentNew_17 &&& M = mX10_sentNew_17)  (h : zFr M z0 z) : zPw M z0 (fX10_sentNew_17 N x0 x1 x2 z) := by
  unfold fX10_sentNew_17
  exact zw_i (zw_lI h (ztb hM rfl) (fun z2 h1 => zw_lI h1 (ztb hM rfl) (fun z3 h2 => zw_lI h2 (ztb hM rfl) (fun z4 h3 => zw_s h3)))) (zw_s h)
def mX10_sentNew : Nat := 0x1c10000000000000000000000000000000000000000000000000000000000000000000000000000000000000000000000000000000000000000000000000000000000000000000000000000000000000000
theorem wX10_sentNew {M : Nat} {N : Nat} {x0 : Nat} {x1 : Int32} {x2 : Int32} {z0 z : St} (hM : mX10_sentNew &&& M = mX10_sentNew)  (h : zFr M z0 z) : zPw M z0 (fX10_sentNew N x0 x1 x2 z) := by
  unfold fX10_sentNew
  exact zw_i (wX10_sentNew_17 (ztr rfl hM)  h) (zw_lI h (ztb hM rfl) (fun z2 h1 => wX10_sentNew_17 (ztr rfl hM)  h1))
def mX3_goAhead_69 : Nat := 0x1c10000000000000000000000000000000000000000000000000000000000000000000000000000000000000000000000000000000000000000000000000000000000000000000000000000000000000000
theorem wX3_goAhead_69 {M : Nat} {N : Nat} {x0 : Nat} {x4 : Int32} {z0 z : St} (hM : mX3_goAhead_69 &&& M = mX3_goAhead_69)  (h : zFr M z0 z) : zPw M z0 (fX3_goAhead_69 N x0 x4 z) := by
  unfold fX3_goAhead_69
  exact zw_l (fun y1 => zw_l (fun y2 => zw_d (fun a3 => zw_d (fun a4 => zw_c (wX10_sentNew (ztr rfl hM)  h) (fun _ z6 h1 => zw_s h1)))))
def mX3_goAhead_53 : Nat := 0x1c10000000000000000000000000000000000000000000000000000000000000240000000000000000000000000000000000000000000000000000000000000000000000000000000000000000000000000
theorem wX3_goAhead_53 {M : Nat} {N : Nat} {x0 : Nat} {x3 : Int32} {x4 : Int32} {s0 : Nat} {s1 : Int32} {s2 : Int32} {z0 z : St} (hM : mX3_goAhead_53 &&& M = mX3_goAhead_53)  (h : zFr M z0 z) : zPw M z0 (fX3_goAhead_53 N x0 x3 x4 s0 s1 s2 z) := by
  unfold fX3_goAhead_53
  exact zw_lI h (ztb hM rfl) (fun z1 h1 => zw_i (wX3_goAhead_69 (ztr rfl hM)  h1) (zw_l (fun y3 => zw_d (fun a4 => zw_lI h1 (ztb hM rfl) (fun z5 h2 => wX3_goAhead_69 (ztr rfl hM)  h2)))))
def mX3_goAhead : Nat := 0x200000000000000000000000000000000000000000000000000000000000000000000000000000000000000000000000000000000000000000000000000000000000000000000000000000000000000000001c10000000000000000000000000000000000000000000006f40000000000000248000000000000000000000000000000000000000000002000000000000000000000000000000000000000000000000000
theorem wX3_goAhead {M : Nat} {N : Nat} {x0 : Nat} {x1 : Nat} {x2 : Int32} {x3 : Int32} {x4 : Int32} {z0 z : St} (hM : mX3_goAhead &&& M = mX3_goAhead)  (h : zFr M z0 z) : zPw M z0 (fX3_goAhead N x0 x1 x2 x3 x4 z) := by
  unfold fX3_goAhead
  exact zw_l (fun y1 => zw_d (fun a2 => zw_l (fun y3 => zw_d (fun a4 => zw_c (wX3_makeBytes (ztr rfl hM)  h) (fun _ z6 h1 => zw_l (fun y9 => zw_d (fun a10 => zw_lI h1 (ztb hM rfl) (fun z11 h2 => zw_l (fun y12 => zw_d (fun a13 => zw_i (wX3_goAhead_53 (ztr rfl hM)  h2) (wX3_goAhead_53 (ztr rfl hM)  h2)))))))))))
def mX3_makeNew_121 : Nat := 0x200000000000000000000000000000000000000000000000000000000000000000000000000000000000000000000000000000000000000000000000000000000000000000000000000000000000000000001c10000000000000000000000000000000000000000000006f40000000000000248000000000000000000000000000000000000000000002000000000000000000000000000000000000000000000000000
theorem wX3_makeNew_121 {M : Nat} {N : Nat} {x0 : Nat} {x1 : Nat} {x2 : Int32} {x4 : Int32} {x5 : Int32} {z0 z : St} (hM : mX3_makeNew_121 &&& M = mX3_makeNew_121)  (h : zFr M z0 z) : zPw M z0 (fX3_makeNew_121 N x0 x1 x2 x4 x5 z) := by
  unfold fX3_makeNew_121
  exact zw_c (wX3_goAhead (ztr rfl hM)  h) (fun _ z2 h1 => zw_s h1)
def mX3_makeNew_107 : Nat := 0x200000000000000000000000000000000000000000000000000000000000000000000000000000000000000000000000000000000000000000000000000000000000000000000000000000000000000000001c10000000000000000000000000000000000000000000006f40000000000000248000000000000000000000000000000000000000000002000000000000000000000000000000000000000000000000000
theorem wX3_makeNew_107 {M : Nat} {N : Nat} {x0 : Nat} {x1 : Nat} {x2 : Int32} {x4 : Int32} {s0 : Int32} {z0 z : St} (hM : mX3_makeNew_107 &&& M = mX3_makeNew_107)  (h : zFr M z0 z) : zPw M z0 (fX3_makeNew_107 N x0 x1 x2 x4 s0 z) := by
  unfold fX3_makeNew_107
  exact zw_i (wX3_makeNew_121 (ztr rfl hM)  h) (zw_i (wX3_makeNew_121 (ztr rfl hM)  h) (zw_s h))
def mX3_makeNew_106 : Nat := 0x200000000000000000000000000000000000000000000000000000000000000000000000000000000000000000000000000000000000000000000000000000000000000000000000000000000000000000001c10000000000000000000000000000000000000000000006f40000000000000248000000000000000000000000000000000000000000002000000000000000000000000000000000000000000000000000
theorem wX3_makeNew_106 {M : Nat} {N : Nat} {x0 : Nat} {x1 : Nat} {x2 : Int32} {x4 : Int32} {z0 z : St} (hM : mX3_makeNew_106 &&& M = mX3_makeNew_106)  (h : zFr M z0 z) : zPw M z0 (fX3_makeNew_106 N x0 x1 x2 x4 z) := by
  unfold fX3_makeNew_106
  exact wX3_makeNew_107 (ztr rfl hM)  h
def mX3_makeNew : Nat := 0x200000000000000000000000000000000000000000000000000000000000000000000000000000000000000000000000000000000000000000000000000000000000000000000000000000000000000000001c10000000000000000000000000000000000000000000006f40000000000000248000000000000000000000000000000000000000000002000000000000000000000000000000000000000000000000000
theorem wX3_makeNew {M : Nat} {N : Nat} {x0 : Nat} {x1 : Nat} {x2 : Int32} {z0 z : St} (hM : mX3_makeNew &&& M = mX3_makeNew)  (h : zFr M z0 z) : zPw M z0 (fX3_makeNew N x0 x1 x2 z) := by
  unfold fX3_makeNew
  exact zw_l (fun y1 => zw_d (fun a2 => zw_l (fun y3 => zw_d (fun a4 => zw_l (fun y5 => zw_d (fun a6 => zw_l (fun v7 => zw_l (fun y8 => zw_d (fun a9 => zw_l (fun y10 => zw_d (fun a11 => zw_l (fun v12 => zw_l (fun y13 => zw_d (fun a14 => zw_i (wX3_makeNew_106 (ztr rfl hM)  h) (zw_l (fun y16 => zw_d (fun a17 => zw_i (wX3_makeNew_106 (ztr rfl hM)  h) (zw_l (fun y19 => zw_d (fun a20 => zw_l (fun y21 => zw_d (fun a22 => zw_i (wX3_makeNew_106 (ztr rfl hM)  h) (zw_i (wX3_makeNew_106 (ztr rfl hM)  h) (wX3_makeNew_107 (ztr rfl hM)  h))))))))))))))))))))))))
def mX3_makeOpen_147 : Nat := 0x400000000000000000000000000000000000000000000000000
theorem wX3_makeOpen_147 {M : Nat} {N : Nat} {x0 : Nat} {z0 z : St} (hM : mX3_makeOpen_147 &&& M = mX3_makeOpen_147)  (h : zFr M z0 z) : zPw M z0 (fX3_makeOpen_147 N x0 z) := by
  unfold fX3_makeOpen_147
  exact zw_lI h (ztb hM rfl) (fun z1 h1 => zw_s h1)
def mX3_makeOpen_96 : Nat := 0x1c10000000000000000000000000000000000000000000000000000000000000000000000000000000000000000000000000000000000000400000000000000000000000000000000000000000000000000
theorem wX3_makeOpen_96 {M : Nat} {N : Nat} {x0 : Nat} {x2 : Int32} {z0 z : St} (hM : mX3_makeOpen_96 &&& M = mX3_makeOpen_96)  (h : zFr M z0 z) : zPw M z0 (fX3_makeOpen_96 N x0 x2 z) := by
  unfold fX3_makeOpen_96
  exact zw_i (zw_l (fun y2 => zw_d (fun a3 => zw_i (wX3_makeOpen_147 (ztr rfl hM)  h) (zw_l (fun y5 => zw_l (fun y6 => zw_d (fun a7 => zw_d (fun a8 => zw_lI h (ztb hM rfl) (fun z9 h1 => wX3_makeOpen_147 (ztr rfl hM)  h1))))))))) (zw_l (fun y10 => zw_l (fun y11 => zw_d (fun a12 => zw_d (fun a13 => zw_c (wX10_sentNew (ztr rfl hM)  h) (fun _ z15 h2 => wX3_makeOpen_147 (ztr rfl hM)  h2))))))
def mX3_makeOpen_81 : Nat := 0x1c10000000000000000000000000000000000000000000000000000000000000000000000000000000000000000000000000000000000000400000000000000000000000000000000000000000000000000
theorem wX3_makeOpen_81 {M : Nat} {N : Nat} {x0 : Nat} {x2 : Int32} {z0 z : St} (hM : mX3_makeOpen_81 &&& M = mX3_makeOpen_81)  (h : zFr M z0 z) : zPw M z0 (fX3_makeOpen_81 N x0 x2 z) := by
  unfold fX3_makeOpen_81
  exact zw_i (wX3_makeOpen_96 (ztr rfl hM)  h) (zw_l (fun y2 => zw_d (fun a3 => zw_lI h (ztb hM rfl) (fun z4 h1 => wX3_makeOpen_96 (ztr rfl hM)  h1))))
def mX3_makeOpen_52 : Nat := 0x200000000000000000000000000000000000000000000000000000000000000000000000000000000000000000000000000000000000000000000000000000000000000000000000000000000000000000001c10000000000000000000000000000000000000000000006f40000000000000000000000000000000000000000000000000000000000002400000000000000000000000000000000000000000000000000
theorem wX3_makeOpen_52 {M : Nat} {N : Nat} {x0 : Nat} {x1 : Nat} {x2 : Int32} {x3 : Int32} {s0 : Nat} {s1 : Int32} {s2 : Int32} {s3 : Int32} {z0 z : St} (hM : mX3_makeOpen_52 &&& M = mX3_makeOpen_52)  (h : zFr M z0 z) : zPw M z0 (fX3_makeOpen_52 N x0 x1 x2 x3 s0 s1 s2 s3 z) := by
  unfold fX3_makeOpen_52
  exact zw_l (fun y1 => zw_d (fun a2 => zw_c (wX4_room (ztr rfl hM)  h) (fun r3 z4 h1 => zw_c (wX7_beginSegment (ztr rfl hM)  h1) (fun _ z8 h2 => zw_c (wX7_put2 (ztr rfl hM)  h2) (fun _ z12 h3 => zw_i (wX3_makeOpen_81 (ztr rfl hM)  h3) (zw_lI h3 (ztb hM rfl) (fun z16 h4 => wX3_makeOpen_81 (ztr rfl hM)  h4)))))))
def mX3_makeOpen_30 : Nat := 0x200000000000000000000000000000000000000000000000000000000000000000000000000000000000000000000000000000000000000000000000000000000000000000000000000000000000000000001c10000000000000000000000000000000000000000000006f40000000000000000000000000000000000000000000000000000000000002400000000000000000000000000000000000000000000000000
theorem wX3_makeOpen_30 {M : Nat} {N : Nat} {x0 : Nat} {x1 : Nat} {x2 : Int32} {x3 : Int32} {s0 : Nat} {s1 : Int32} {z0 z : St} (hM : mX3_makeOpen_30 &&& M = mX3_makeOpen_30)  (h : zFr M z0 z) : zPw M z0 (fX3_makeOpen_30 N x0 x1 x2 x3 s0 s1 z) := by
  unfold fX3_makeOpen_30
  exact zw_l (fun y1 => zw_d (fun a2 => zw_i (wX3_makeOpen_52 (ztr rfl hM)  h) (zw_l (fun y4 => zw_d (fun a5 => wX3_makeOpen_52 (ztr rfl hM)  h)))))
def mX3_makeOpen_13 : Nat := 0x200000000000000000000000000000000000000000000000000000000000000000000000000000000000000000000000000000000000000000000000000000000000000000000000000000000000000000001c10000000000000000000000000000000000000000000006f40000000000000000000000000000000000000000000000000000000000002600000000000000000000000000000000000000000000000000
theorem wX3_makeOpen_13 {M : Nat} {N : Nat} {x0 : Nat} {x1 : Nat} {x2 : Int32} {s0 : Int32} {z0 z : St} (hM : mX3_makeOpen_13 &&& M = mX3_makeOpen_13)  (h : zFr M z0 z) : zPw M z0 (fX3_makeOpen_13 N x0 x1 x2 s0 z) := by
  unfold fX3_makeOpen_13
  exact zw_lI h (ztb hM rfl) (fun z1 h1 => zw_i (wX3_makeOpen_30 (ztr rfl hM)  h1) (wX3_makeOpen_30 (ztr rfl hM)  h1))
def mX3_makeOpen : Nat := 0x200000000000000000000000000000000000000000000000000000000000000000000000000000000000000000000000000000000000000000000000000000000000000000000000000000000000000000001c10000000000000000000000000000000000000000000006f40000000000000000000000000000000000000000000000000000000000002600000000000000000000000000000000000000000000000000
theorem wX3_makeOpen {M : Nat} {N : Nat} {x0 : Nat} {x1 : Nat} {x2 : Int32} {z0 z : St} (hM : mX3_makeOpen &&& M = mX3_makeOpen)  (h : zFr M z0 z) : zPw M z0 (fX3_makeOpen N x0 x1 x2 z) := by
  unfold fX3_makeOpen
  exact zw_i (wX3_makeOpen_13 (ztr rfl hM)  h) (wX3_makeOpen_13 (ztr rfl hM)  h)
def mX3_makeProbe_58 : Nat := 0x200000000000000000000000000000000000000000000000000000000000000000000000000000000000000000000000000000000000000000000000000000000000000000000000000000000000000000001c10000000000000000000000000000000000000000000006f40000000000000248000000000000000000000000000000000000000000002000000000000000000000000000000000000000000000000000
theorem wX3_makeProbe_58 {M : Nat} {N : Nat} {x2 : Int32} {x3 : Int32} {s0 : Nat} {s1 : Nat} {s2 : Int32} {z0 z : St} (hM : mX3_makeProbe_58 &&& M = mX3_makeProbe_58)  (h : zFr M z0 z) : zPw M z0 (fX3_makeProbe_58 N x2 x3 s0 s1 s2 z) := by
  unfold fX3_makeProbe_58
  exact zw_c (wX3_goAhead (ztr rfl hM)  h) (fun _ z2 h1 => zw_s h1)
def mX3_makeProbe_46 : Nat := 0x200000000000000000000000000000000000000000000000000000000000000000000000000000000000000000000000000000000000000000000000000000000000000000000000000000000000000000001c10000000000000000000000000000000000000000000006f40000000000000248000000000000000000000000000000000000000000002000000000000000000000000000000000000000000000000000
theorem wX3_makeProbe_46 {M : Nat} {N : Nat} {x0 : Nat} {x1 : Nat} {x2 : Int32} {s0 : Int32} {z0 z : St} (hM : mX3_makeProbe_46 &&& M = mX3_makeProbe_46)  (h : zFr M z0 z) : zPw M z0 (fX3_makeProbe_46 N x0 x1 x2 s0 z) := by
  unfold fX3_makeProbe_46
  exact zw_i (wX3_makeProbe_58 (ztr rfl hM)  h) (wX3_makeProbe_58 (ztr rfl hM)  h)
def mX3_makeProbe : Nat := 0x200000000000000000000000000000000000000000000000000000000000000000000000000000000000000000000000000000000000000000000000000000000000000000000000000000000000000000001c10000000000000000000000000000000000000000000006f40000000000000248000000000000000000000000000000000000000000003000000000000000000000000000000000000000000000000000
theorem wX3_makeProbe {M : Nat} {N : Nat} {x0 : Nat} {x1 : Nat} {x2 : Int32} {z0 z : St} (hM : mX3_makeProbe &&& M = mX3_makeProbe)  (h : zFr M z0 z) : zPw M z0 (fX3_makeProbe N x0 x1 x2 z) := by
  unfold fX3_makeProbe
  exact zw_lI h (ztb hM rfl) (fun z1 h1 => zw_c (wX3_sendsNew (ztr rfl hM)  h1) (fun r2 z3 h2 => zw_i (zw_s h2) (zw_l (fun y7 => zw_d (fun a8 => zw_c (wX6_hasNew (ztr rfl hM)  h2) (fun r9 z10 h3 => zw_i (zw_l (fun y14 => zw_d (fun a15 => zw_l (fun y16 => zw_d (fun a17 => zw_i (wX3_makeProbe_46 (ztr rfl hM)  h3) (wX3_makeProbe_46 (ztr rfl hM)  h3)))))) (zw_s h3)))))))
def mX3_makeNext_96 : Nat := 0x200000000000000000000000000000000000000000000000000000000000000000000000000000000000000000000000000000000000000000000000000000000000000000000000000000000000000000000000000000000000000000000000000000000000000000006f40000000000000000000000000000000000000000000000000000000000002000000000000000000000000000000000000000000000000000
theorem wX3_makeNext_96 {M : Nat} {N : Nat} {x0 : Nat} {x1 : Nat} {z0 z : St} (hM : mX3_makeNext_96 &&& M = mX3_makeNext_96)  (h : zFr M z0 z) : zPw M z0 (fX3_makeNext_96 N x0 x1 z) := by
  unfold fX3_makeNext_96
  exact zw_i (zw_l (fun y2 => zw_d (fun a3 => zw_c (wX3_makeBytes (ztr rfl hM)  h) (fun _ z5 h1 => zw_s h1)))) (zw_s h)
def mX3_makeNext_78 : Nat := 0x200000000000000000000000000000000000000000000000000000000000000000000000000000000000000000000000000000000000000000000000000000000000000000000000000000000000000000001c10000000000000000000000000000000000000000000006f40000000000000248000000000000000000000000000000000000000000003000000000000000000000000000000000000000000000000000
theorem wX3_makeNext_78 {M : Nat} {N : Nat} {x0 : Nat} {x1 : Nat} {x2 : Int32} {z0 z : St} (hM : mX3_makeNext_78 &&& M = mX3_makeNext_78)  (h : zFr M z0 z) : zPw M z0 (fX3_makeNext_78 N x0 x1 x2 z) := by
  unfold fX3_makeNext_78
  exact zw_i (wX3_makeNext_96 (ztr rfl hM)  h) (zw_c (wX3_makeProbe (ztr rfl hM)  h) (fun r2 z3 h1 => zw_i (wX3_makeNext_96 (ztr rfl hM)  h1) (zw_s h1)))
def mX3_makeNext : Nat := 0x200000000000000000000000000000000000000000000000000000000000000000000000000000000000000000000000000000000000000000000000000000000000000000000000000000000000000000001c10000000000000000000000000000000000000000000006f40000000000000248000000000000000000000000000000000000000000003e20000000000000000000000000000000000000000000000000
theorem wX3_makeNext {M : Nat} {N : Nat} {x0 : Nat} {x1 : Nat} {x2 : Int32} {z0 z : St} (hM : mX3_makeNext &&& M = mX3_makeNext)  (h : zFr M z0 z) : zPw M z0 (fX3_makeNext N x0 x1 x2 z) := by
  unfold fX3_makeNext
  exact zw_i (zw_i (zw_i (zw_c (wX3_sendsNew (ztr rfl hM)  h) (fun r4 z5 h1 => zw_i (wX3_makeNext_78 (ztr rfl hM)  h1) (zw_c (wX3_makeNew (ztr rfl hM)  h1) (fun r9 z10 h2 => zw_i (wX3_makeNext_78 (ztr rfl hM)  h2) (zw_s h2))))) (zw_c (wX3_makeAgain (ztr rfl hM)  h) (fun _ z15 h3 => zw_s h3))) (zw_c (wX3_makeOpen (ztr rfl hM)  h) (fun _ z19 h4 => zw_s h4))) (zw_lI h (ztb hM rfl) (fun z22 h5 => zw_c (wX7_beginSegment (ztr rfl hM)  h5) (fun _ z24 h6 => zw_s h6)))
def mX5_addFate : Nat := 0x40000000000000000000000000000000000000000000000000000000000000000000000000000000000000000000000000000000000000000000000000000000000000000000000000000000000000000000000000000000000000000000000000000000000000000000000000000000000000000000000000004000000000000000000000000000000000000000000000000000000000000000000000000000000000
theorem wX5_addFate {M : Nat} {N : Nat} {x0 : Nat} {x1 : Int32} {z0 z : St} (hM : mX5_addFate &&& M = mX5_addFate)  (h : zFr M z0 z) : zPw M z0 (fX5_addFate N x0 x1 z) := by
  unfold fX5_addFate
  exact zw_i (zw_k (zw_lA h (ztb hM rfl) (fun z3 h1 => zw_lI h1 (ztb hM rfl) (fun z4 h2 => zw_s h2)))) (zw_s h)
def mX5_nextFate : Nat := 0x6000000000000000000000000000000000000000000000000000000000000000000000000000000000
theorem wX5_nextFate {M : Nat} {N : Nat} {x0 : Nat} {z0 z : St} (hM : mX5_nextFate &&& M = mX5_nextFate)  (h : zFr M z0 z) : zPw M z0 (fX5_nextFate N x0 z) := by
  unfold fX5_nextFate
  exact zw_i (zw_k (zw_l (fun v3 => zw_lI h (ztb hM rfl) (fun z4 h1 => zw_lI h1 (ztb hM rfl) (fun z5 h2 => zw_s h2))))) (zw_s h)
def mX5_addressOf : Nat := 0x0
theorem wX5_addressOf {M : Nat} {N : Nat} {x0 : Nat} {x1 : Int32} {z0 z : St} (hM : mX5_addressOf &&& M = mX5_addressOf)  (h : zFr M z0 z) : zPw M z0 (fX5_addressOf N x0 x1 z) := by
  unfold fX5_addressOf
  exact zw_s h
def mX5_leastRouter_2b : Nat := 0x0
theorem wX5_leastRouter_2b {M : Nat} {N : Nat} {K2 : Nat → Int32 → St → Option (Int32 × St)} {x0 : Nat} {x1 : Int32} {z0 z : St} (hM : mX5_leastRouter_2b &&& M = mX5_leastRouter_2b)  (hK2 : ∀ a0 a1 a2, zFr M z0 a2 → zPw M z0 (K2 a0 a1 a2)) (h : zFr M z0 z) : zPw M z0 (fX5_leastRouter_2b N K2 x0 x1 z) := by
  unfold fX5_leastRouter_2b
  exact zw_i (zw_s h) (zw_k (zw_l (fun y3 => zw_d (fun a4 => zw_l (fun y5 => zw_d (fun a6 => zw_i (zw_l (fun v8 => hK2 _ _ _ h)) (zw_s h)))))))
def mX5_leastRouter_2 : Nat := 0x0
theorem wX5_leastRouter_2 {M : Nat} {z0 : St} {N : Nat}(hM : mX5_leastRouter_2 &&& M = mX5_leastRouter_2)  : ∀ (n : Nat) (y0 : Nat) (y1 : Int32) (z : St), zFr M z0 z → zPw M z0 (fX5_leastRouter_2 N n y0 y1 z) := by
  intro n
  induction n with
  | zero => intro y0 y1 z h; exact zw_n
  | succ n ih => intro y0 y1 z h; exact wX5_leastRouter_2b (ztr rfl hM)  (fun _ _ _ h => ih _ _ _ h) h
def mX5_leastRouter : Nat := 0x0
theorem wX5_leastRouter {M : Nat} {N : Nat} {x0 : Nat} {z0 z : St} (hM : mX5_leastRouter &&& M = mX5_leastRouter)  (h : zFr M z0 z) : zPw M z0 (fX5_leastRouter N x0 z) := by
  unfold fX5_leastRouter
  exact wX5_leastRouter_2 (ztr rfl hM)  _ _ _ _ h
def mX6_add : Nat := 0x100000000000000000000000000000000000000000000000000000000000000000000000000000000000000000000000000000000000000000000000000000000000000000000000000000000000000000000000000000000000000000000000000000000000000000000000000000000000004000000000000000000000000000000000000000000000000000000000000000000000000000000000000000000000000
theorem wX6_add {M : Nat} {N : Nat} {x0 : Nat} {x1 : Int32} {z0 z : St} (hM : mX6_add &&& M = mX6_add)  (h : zFr M z0 z) : zPw M z0 (fX6_add N x0 x1 z) := by
  unfold fX6_add
  exact zw_i (zw_k (zw_lA h (ztb hM rfl) (fun z3 h1 => zw_lI h1 (ztb hM rfl) (fun z4 h2 => zw_s h2)))) (zw_s h)
def mX7_get4 : Nat := 0x0
theorem wX7_get4 {M : Nat} {N : Nat} {x0 : Nat} {x1 : Int32} {z0 z : St} (hM : mX7_get4 &&& M = mX7_get4)  (h : zFr M z0 z) : zPw M z0 (fX7_get4 N x0 x1 z) := by
  unfold fX7_get4
  exact zw_c (wX7_get2 (ztr rfl hM)  h) (fun r1 z2 h1 => zw_c (wX7_get2 (ztr rfl hM)  h1) (fun r5 z6 h2 => zw_s h2))
def mX7_readHead : Nat := 0xf80000000000000000000000000000000000000000000000000000000000000000000000000000000000000000000000000000000000000000000
theorem wX7_readHead {M : Nat} {N : Nat} {x0 : Nat} {z0 z : St} (hM : mX7_readHead &&& M = mX7_readHead)  (h : zFr M z0 z) : zPw M z0 (fX7_readHead N x0 z) := by
  unfold fX7_readHead
  exact zw_c (wX7_get4 (ztr rfl hM)  h) (fun r1 z2 h1 => zw_lI h1 (ztb hM rfl) (fun z5 h2 => zw_c (wX7_get4 (ztr rfl hM)  h2) (fun r6 z7 h3 => zw_lI h3 (ztb hM rfl) (fun z10 h4 => zw_c (wX7_get2 (ztr rfl hM)  h4) (fun r11 z12 h5 => zw_lI h5 (ztb hM rfl) (fun z15 h6 => zw_c (wX7_get2 (ztr rfl hM)  h6) (fun r16 z17 h7 => zw_lI h7 (ztb hM rfl) (fun z20 h8 => zw_c (wX7_get2 (ztr rfl hM)  h8) (fun r21 z22 h9 => zw_lI h9 (ztb hM rfl) (fun z25 h10 => zw_s h10))))))))))
def mX8_knows : Nat := 0x0
theorem wX8_knows {M : Nat} {N : Nat} {x0 : Nat} {x1 : Int32} {x2 : Int32} {z0 z : St} (hM : mX8_knows &&& M = mX8_knows)  (h : zFr M z0 z) : zPw M z0 (fX8_knows N x0 x1 x2 z) := by
  unfold fX8_knows
  exact zw_k (zw_i (zw_s h) (zw_k (zw_i (zw_s h) (zw_s h))))
def mX8_isAsked : Nat := 0x0
theorem wX8_isAsked {M : Nat} {N : Nat} {x0 : Nat} {x1 : Int32} {z0 z : St} (hM : mX8_isAsked &&& M = mX8_isAsked)  (h : zFr M z0 z) : zPw M z0 (fX8_isAsked N x0 x1 z) := by
  unfold fX8_isAsked
  exact zw_k (zw_i (zw_s h) (zw_s h))
def mX8_beginAsking : Nat := 0x1800000000000000000000000000000000000000000000000000000000000000000000000000000000000000000000000000000000000000000000000000000000000000000000000000000000000000000000000000000000000000000000000000020000000000000000000000000000000000000000000000000000000000000000000000000000000000000000000000000000000000000000000000000000000000
theorem wX8_beginAsking {M : Nat} {N : Nat} {x0 : Nat} {x1 : Int32} {x2 : Int32} {z0 z : St} (hM : mX8_beginAsking &&& M = mX8_beginAsking)  (h : zFr M z0 z) : zPw M z0 (fX8_beginAsking N x0 x1 x2 z) := by
  unfold fX8_beginAsking
  exact zw_i (zw_k (zw_lA h (ztb hM rfl) (fun z3 h1 => zw_k (zw_lA h1 (ztb hM rfl) (fun z5 h2 => zw_lI h2 (ztb hM rfl) (fun z6 h3 => zw_s h3)))))) (zw_s h)
def mX8_endAsking_47 : Nat := 0x0
theorem wX8_endAsking_47 {M : Nat} {N : Nat} {K11 : Nat → Int32 → Int32 → Int32 → St → Option (Int32 × St)} {x0 : Nat} {x1 : Int32} {x2 : Int32} {x3 : Int32} {z0 z : St} (hM : mX8_endAsking_47 &&& M = mX8_endAsking_47)  (hK11 : ∀ a0 a1 a2 a3 a4, zFr M z0 a4 → zPw M z0 (K11 a0 a1 a2 a3 a4)) (h : zFr M z0 z) : zPw M z0 (fX8_endAsking_47 N K11 x0 x1 x2 x3 z) := by
  unfold fX8_endAsking_47
  exact zw_l (fun v1 => hK11 _ _ _ _ _ h)
def mX8_endAsking_11b : Nat := 0x1000000000000000000000000000000000000000000000000000000000000000000000000000000000000000000000000000000000000000000000000000000000000000000000000000000000000000000000000000000000000000000000000000020000000000000000000000000000000000000000000000000000000000000000000000000000000000000000000000000000000000000000000000000000000000
theorem wX8_endAsking_11b {M : Nat} {N : Nat} {K11 : Nat → Int32 → Int32 → Int32 → St → Option (Int32 × St)} {x0 : Nat} {x1 : Int32} {x2 : Int32} {x3 : Int32} {z0 z : St} (hM : mX8_endAsking_11b &&& M = mX8_endAsking_11b)  (hK11 : ∀ a0 a1 a2 a3 a4, zFr M z0 a4 → zPw M z0 (K11 a0 a1 a2 a3 a4)) (h : zFr M z0 z) : zPw M z0 (fX8_endAsking_11b N K11 x0 x1 x2 x3 z) := by
  unfold fX8_endAsking_11b
  exact zw_i (zw_lI h (ztb hM rfl) (fun z2 h1 => zw_s h1)) (zw_k (zw_i (zw_k (zw_k (zw_lA h (ztb hM rfl) (fun z7 h2 => zw_l (fun v8 => wX8_endAsking_47 (ztr rfl hM) hK11 h2))))) (wX8_endAsking_47 (ztr rfl hM) hK11 h)))
def mX8_endAsking_11 : Nat := 0x1000000000000000000000000000000000000000000000000000000000000000000000000000000000000000000000000000000000000000000000000000000000000000000000000000000000000000000000000000000000000000000000000000020000000000000000000000000000000000000000000000000000000000000000000000000000000000000000000000000000000000000000000000000000000000
theorem wX8_endAsking_11 {M : Nat} {z0 : St} {N : Nat}(hM : mX8_endAsking_11 &&& M = mX8_endAsking_11)  : ∀ (n : Nat) (y0 : Nat) (y1 : Int32) (y2 : Int32) (y3 : Int32) (z : St), zFr M z0 z → zPw M z0 (fX8_endAsking_11 N n y0 y1 y2 y3 z) := by
  intro n
  induction n with
  | zero => intro y0 y1 y2 y3 z h; exact zw_n
  | succ n ih => intro y0 y1 y2 y3 z h; exact wX8_endAsking_11b (ztr rfl hM)  (fun _ _ _ _ _ h => ih _ _ _ _ _ h) h
def mX8_endAsking : Nat := 0x1800000000000000000000000000000000000000000000000000000000000000000000000000000000000000000000000000000000000000000000000000000000000000000000000000000000000000000000000000000000000000000000000000020000000000000000000000000000000000000000000000000000000000000000000000000000000000000000000000000000000000000000000000000000000000
theorem wX8_endAsking {M : Nat} {N : Nat} {x0 : Nat} {x1 : Int32} {z0 z : St} (hM : mX8_endAsking &&& M = mX8_endAsking)  (h : zFr M z0 z) : zPw M z0 (fX8_endAsking N x0 x1 z) := by
  unfold fX8_endAsking
  exact zw_k (zw_lA h (ztb hM rfl) (fun z2 h1 => wX8_endAsking_11 (ztr rfl hM)  _ _ _ _ _ _ h1))
def mX8_rememberAsked_2b : Nat := 0x2000000000000000000000000000000000000000000000000000000000000000000000000000000000000000000000000000000000000000000000000000000000000000000000000000000000000000000000000000000000000000000000000000000000000000000000000000000000000000000000000000000000000000000000000000000000000000000000000000000000000000000000000000000000000000
theorem wX8_rememberAsked_2b {M : Nat} {N : Nat} {K2 : Nat → Int32 → St → Option (Int32 × St)} {x0 : Nat} {x1 : Int32} {z0 z : St} (hM : mX8_rememberAsked_2b &&& M = mX8_rememberAsked_2b)  (hK2 : ∀ a0 a1 a2, zFr M z0 a2 → zPw M z0 (K2 a0 a1 a2)) (h : zFr M z0 z) : zPw M z0 (fX8_rememberAsked_2b N K2 x0 x1 z) := by
  unfold fX8_rememberAsked_2b
  exact zw_i (zw_s h) (zw_k (zw_k (zw_lA h (ztb hM rfl) (fun z4 h1 => zw_l (fun v5 => hK2 _ _ _ h1)))))
def mX8_rememberAsked_2 : Nat := 0x2000000000000000000000000000000000000000000000000000000000000000000000000000000000000000000000000000000000000000000000000000000000000000000000000000000000000000000000000000000000000000000000000000000000000000000000000000000000000000000000000000000000000000000000000000000000000000000000000000000000000000000000000000000000000000
theorem wX8_rememberAsked_2 {M : Nat} {z0 : St} {N : Nat}(hM : mX8_rememberAsked_2 &&& M = mX8_rememberAsked_2)  : ∀ (n : Nat) (y0 : Nat) (y1 : Int32) (z : St), zFr M z0 z → zPw M z0 (fX8_rememberAsked_2 N n y0 y1 z) := by
  intro n
  induction n with
  | zero => intro y0 y1 z h; exact zw_n
  | succ n ih => intro y0 y1 z h; exact wX8_rememberAsked_2b (ztr rfl hM)  (fun _ _ _ h => ih _ _ _ h) h
def mX8_rememberAsked : Nat := 0x2000000000000000000000000000000000000000000000000000000000000000000000000000000000000000000000000000000000000000000000000000000000000000000000000000000000000000000000000000000000000000000000000000000000000000000000000000000000000000000000000000000000000000000000000000000000000000000000000000000000000000000000000000000000000000
theorem wX8_rememberAsked {M : Nat} {N : Nat} {x0 : Nat} {z0 z : St} (hM : mX8_rememberAsked &&& M = mX8_rememberAsked)  (h : zFr M z0 z) : zPw M z0 (fX8_rememberAsked N x0 z) := by
  unfold fX8_rememberAsked
  exact wX8_rememberAsked_2 (ztr rfl hM)  _ _ _ _ h
def mX8_letWait : Nat := 0x20000000000000000000000000000000000000000000000000000000000000000000000000000000000000000000000000000000000000000000000000000000000000000000000000000000000000000000000000000000000000000000000000010000000000000000eff0000000000000000000000000000000000000000000000000000000000000000000000000000000000000000000000000000000000000000
theorem wX8_letWait {M : Nat} {N : Nat} {x0 : Nat} {x1 : Nat} {x2 : Int32} {z0 z : St} (hM : mX8_letWait &&& M = mX8_letWait)  (h : zFr M z0 z) : zPw M z0 (fX8_letWait N x0 x1 x2 z) := by
  unfold fX8_letWait
  exact zw_i (zw_k (zw_l (fun y3 => zw_d (fun a4 => zw_c (wX7_copyPart (ztr rfl hM)  h) (fun _ z6 h1 => zw_lI h1 (ztb hM rfl) (fun z9 h2 => zw_lI h2 (ztb hM rfl) (fun z10 h3 => zw_s h3))))))) (zw_s h)
def mX8_firstWaitingFor_2b : Nat := 0x0
theorem wX8_firstWaitingFor_2b {M : Nat} {N : Nat} {K2 : Nat → Int32 → Int32 → St → Option (Int32 × St)} {x0 : Nat} {x1 : Int32} {x2 : Int32} {z0 z : St} (hM : mX8_firstWaitingFor_2b &&& M = mX8_firstWaitingFor_2b)  (hK2 : ∀ a0 a1 a2 a3, zFr M z0 a3 → zPw M z0 (K2 a0 a1 a2 a3)) (h : zFr M z0 z) : zPw M z0 (fX8_firstWaitingFor_2b N K2 x0 x1 x2 z) := by
  unfold fX8_firstWaitingFor_2b
  exact zw_i (zw_s h) (zw_k (zw_l (fun y3 => zw_d (fun a4 => zw_i (zw_l (fun v6 => hK2 _ _ _ _ h)) (zw_s h)))))
def mX8_firstWaitingFor_2 : Nat := 0x0
theorem wX8_firstWaitingFor_2 {M : Nat} {z0 : St} {N : Nat}(hM : mX8_firstWaitingFor_2 &&& M = mX8_firstWaitingFor_2)  : ∀ (n : Nat) (y0 : Nat) (y1 : Int32) (y2 : Int32) (z : St), zFr M z0 z → zPw M z0 (fX8_firstWaitingFor_2 N n y0 y1 y2 z) := by
  intro n
  induction n with
  | zero => intro y0 y1 y2 z h; exact zw_n
  | succ n ih => intro y0 y1 y2 z h; exact wX8_firstWaitingFor_2b (ztr rfl hM)  (fun _ _ _ _ h => ih _ _ _ _ h) h
def mX8_firstWaitingFor : Nat := 0x0
theorem wX8_firstWaitingFor {M : Nat} {N : Nat} {x0 : Nat} {x1 : Int32} {z0 z : St} (hM : mX8_firstWaitingFor &&& M = mX8_firstWaitingFor)  (h : zFr M z0 z) : zPw M z0 (fX8_firstWaitingFor N x0 x1 z) := by
  unfold fX8_firstWaitingFor
  exact wX8_firstWaitingFor_2 (ztr rfl hM)  _ _ _ _ _ h
def mX8_countWaitingFor_28 : Nat := 0x0
theorem wX8_countWaitingFor_28 {M : Nat} {N : Nat} {K4 : Nat → Int32 → Int32 → Int32 → St → Option (Int32 × St)} {x0 : Nat} {x1 : Int32} {x2 : Int32} {x3 : Int32} {z0 z : St} (hM : mX8_countWaitingFor_28 &&& M = mX8_countWaitingFor_28)  (hK4 : ∀ a0 a1 a2 a3 a4, zFr M z0 a4 → zPw M z0 (K4 a0 a1 a2 a3 a4)) (h : zFr M z0 z) : zPw M z0 (fX8_countWaitingFor_28 N K4 x0 x1 x2 x3 z) := by
  unfold fX8_countWaitingFor_28
  exact zw_l (fun v1 => hK4 _ _ _ _ _ h)
def mX8_countWaitingFor_4b : Nat := 0x0
theorem wX8_countWaitingFor_4b {M : Nat} {N : Nat} {K4 : Nat → Int32 → Int32 → Int32 → St → Option (Int32 × St)} {x0 : Nat} {x1 : Int32} {x2 : Int32} {x3 : Int32} {z0 z : St} (hM : mX8_countWaitingFor_4b &&& M = mX8_countWaitingFor_4b)  (hK4 : ∀ a0 a1 a2 a3 a4, zFr M z0 a4 → zPw M z0 (K4 a0 a1 a2 a3 a4)) (h : zFr M z0 z) : zPw M z0 (fX8_countWaitingFor_4b N K4 x0 x1 x2 x3 z) := by
  unfold fX8_countWaitingFor_4b
  exact zw_i (zw_s h) (zw_k (zw_l (fun y3 => zw_d (fun a4 => zw_i (wX8_countWaitingFor_28 (ztr rfl hM) hK4 h) (zw_l (fun v6 => wX8_countWaitingFor_28 (ztr rfl hM) hK4 h))))))
def mX8_countWaitingFor_4 : Nat := 0x0
theorem wX8_countWaitingFor_4 {M : Nat} {z0 : St} {N : Nat}(hM : mX8_countWaitingFor_4 &&& M = mX8_countWaitingFor_4)  : ∀ (n : Nat) (y0 : Nat) (y1 : Int32) (y2 : Int32) (y3 : Int32) (z : St), zFr M z0 z → zPw M z0 (fX8_countWaitingFor_4 N n y0 y1 y2 y3 z) := by
  intro n
  induction n with
  | zero => intro y0 y1 y2 y3 z h; exact zw_n
  | succ n ih => intro y0 y1 y2 y3 z h; exact wX8_countWaitingFor_4b (ztr rfl hM)  (fun _ _ _ _ _ h => ih _ _ _ _ _ h) h
def mX8_countWaitingFor : Nat := 0x0
theorem wX8_countWaitingFor {M : Nat} {N : Nat} {x0 : Nat} {x1 : Int32} {z0 z : St} (hM : mX8_countWaitingFor &&& M = mX8_countWaitingFor)  (h : zFr M z0 z) : zPw M z0 (fX8_countWaitingFor N x0 x1 z) := by
  unfold fX8_countWaitingFor
  exact wX8_countWaitingFor_4 (ztr rfl hM)  _ _ _ _ _ _ h
def mX8_takeWaiting_9b : Nat := 0x4000000000000000000000000000000000000000000000000000000000000000000000000000000000000000000000000000000000000000000000000000000000000000000000000000000000000000000000000000000000000000000000000000100000000000000000000000000000000000000000000000000000000000000000000000000000000000000000000000000000000000000000000000000000000000
theorem wX8_takeWaiting_9b {M : Nat} {N : Nat} {K9 : Nat → Option Nat → Int32 → St → Option (Option Nat × St)} {x0 : Nat} {x2 : Option Nat} {x3 : Int32} {z0 z : St} (hM : mX8_takeWaiting_9b &&& M = mX8_takeWaiting_9b)  (hK9 : ∀ a0 a1 a2 a3, zFr M z0 a3 → zPw M z0 (K9 a0 a1 a2 a3)) (h : zFr M z0 z) : zPw M z0 (fX8_takeWaiting_9b N K9 x0 x2 x3 z) := by
  unfold fX8_takeWaiting_9b
  exact zw_i (zw_lI h (ztb hM rfl) (fun z2 h1 => zw_k (zw_lQ h1 (ztb hM rfl) (fun z4 h2 => zw_s h2)))) (zw_k (zw_l (fun y6 => zw_k (zw_lQ h (ztb hM rfl) (fun z8 h3 => zw_l (fun v9 => hK9 _ _ _ _ h3))))))
def mX8_takeWaiting_9 : Nat := 0x4000000000000000000000000000000000000000000000000000000000000000000000000000000000000000000000000000000000000000000000000000000000000000000000000000000000000000000000000000000000000000000000000000100000000000000000000000000000000000000000000000000000000000000000000000000000000000000000000000000000000000000000000000000000000000
theorem wX8_takeWaiting_9 {M : Nat} {z0 : St} {N : Nat}(hM : mX8_takeWaiting_9 &&& M = mX8_takeWaiting_9)  : ∀ (n : Nat) (y0 : Nat) (y1 : Option Nat) (y2 : Int32) (z : St), zFr M z0 z → zPw M z0 (fX8_takeWaiting_9 N n y0 y1 y2 z) := by
  intro n
  induction n with
  | zero => intro y0 y1 y2 z h; exact zw_n
  | succ n ih => intro y0 y1 y2 z h; exact wX8_takeWaiting_9b (ztr rfl hM)  (fun _ _ _ _ h => ih _ _ _ _ h) h
def mX8_takeWaiting : Nat := 0x4000000000000000000000000000000000000000000000000000000000000000000000000000000000000000000000000000000000000000000000000000000000000000000000000000000000000000000000000000000000000000000000000000100000000000000000000000000000000000000000000000000000000000000000000000000000000000000000000000000000000000000000000000000000000000
theorem wX8_takeWaiting {M : Nat} {N : Nat} {x0 : Nat} {x1 : Int32} {z0 z : St} (hM : mX8_takeWaiting &&& M = mX8_takeWaiting)  (h : zFr M z0 z) : zPw M z0 (fX8_takeWaiting N x0 x1 z) := by
  unfold fX8_takeWaiting
  exact zw_k (zw_l (fun y2 => wX8_takeWaiting_9 (ztr rfl hM)  _ _ _ _ _ h))
def mX9_beginHearing_51 : Nat := 0x8000000000000000000000000000000000000000000000000000000000000000000000000000000000000000000000000000000000000000000000000000000000000000000000000000000000000000000000000000000000000002000000000000000000000000000000000000000000000000000000000000000000000000000000000000000000000000000000000000000000000000000000000000000000000000
theorem wX9_beginHearing_51 {M : Nat} {N : Nat} {x0 : Nat} {x1 : Int32} {x2 : Int32} {z0 z : St} (hM : mX9_beginHearing_51 &&& M = mX9_beginHearing_51)  (h : zFr M z0 z) : zPw M z0 (fX9_beginHearing_51 N x0 x1 x2 z) := by
  unfold fX9_beginHearing_51
  exact zw_k (zw_lA h (ztb hM rfl) (fun z2 h1 => zw_lI h1 (ztb hM rfl) (fun z3 h2 => zw_s h2)))
def mX9_beginHearing_15b : Nat := 0x8000000000000000000000000000000000000000000000000000000000000000000000000000000000000000000000000000000000000000000000000000000000000000000000000000000000000000000000000000000000000002000000000000000000000000000000000000000000000000000000000000000000000000000000000000000000000000000000000000000000000000000000000000000000000000
theorem wX9_beginHearing_15b {M : Nat} {N : Nat} {K15 : Nat → Int32 → Int32 → St → Option (Int32 × St)} {x0 : Nat} {x1 : Int32} {x2 : Int32} {z0 z : St} (hM : mX9_beginHearing_15b &&& M = mX9_beginHearing_15b)  (hK15 : ∀ a0 a1 a2 a3, zFr M z0 a3 → zPw M z0 (K15 a0 a1 a2 a3)) (h : zFr M z0 z) : zPw M z0 (fX9_beginHearing_15b N K15 x0 x1 x2 z) := by
  unfold fX9_beginHearing_15b
  exact zw_i (wX9_beginHearing_51 (ztr rfl hM)  h) (zw_k (zw_i (wX9_beginHearing_51 (ztr rfl hM)  h) (zw_k (zw_k (zw_lA h (ztb hM rfl) (fun z6 h1 => zw_l (fun v7 => hK15 _ _ _ _ h1)))))))
def mX9_beginHearing_15 : Nat := 0x8000000000000000000000000000000000000000000000000000000000000000000000000000000000000000000000000000000000000000000000000000000000000000000000000000000000000000000000000000000000000002000000000000000000000000000000000000000000000000000000000000000000000000000000000000000000000000000000000000000000000000000000000000000000000000
theorem wX9_beginHearing_15 {M : Nat} {z0 : St} {N : Nat}(hM : mX9_beginHearing_15 &&& M = mX9_beginHearing_15)  : ∀ (n : Nat) (y0 : Nat) (y1 : Int32) (y2 : Int32) (z : St), zFr M z0 z → zPw M z0 (fX9_beginHearing_15 N n y0 y1 y2 z) := by
  intro n
  induction n with
  | zero => intro y0 y1 y2 z h; exact zw_n
  | succ n ih => intro y0 y1 y2 z h; exact wX9_beginHearing_15b (ztr rfl hM)  (fun _ _ _ _ h => ih _ _ _ _ h) h
def mX9_beginHearing : Nat := 0x8000000000000000000000000000000000000000000000000000000000000000000000000000000000000000000000000000000000000000000000000000000000000000000000000000000000000000000000000000000000000002000000000000000000000000000000000000000000000000000000000000000000000000000000000000000000000000000000000000000000000000000000000000000000000000
theorem wX9_beginHearing {M : Nat} {N : Nat} {x0 : Nat} {x1 : Int32} {z0 z : St} (hM : mX9_beginHearing &&& M = mX9_beginHearing)  (h : zFr M z0 z) : zPw M z0 (fX9_beginHearing N x0 x1 z) := by
  unfold fX9_beginHearing
  exact zw_i (zw_l (fun v2 => wX9_beginHearing_15 (ztr rfl hM)  _ _ _ _ _ h)) (zw_s h)
def mX9_setDue_21 : Nat := 0x80000000000000000000000000000000000000000000000000000000000000000000000000000000000000000000000000000000000000000000000000000000000000000000000000000000000000000000000000000000000000020000000000000000000000000000000000000000000000000000000000000000000000000000000000000000000000000000000000000000000000000000000000000000000000000
theorem wX9_setDue_21 {M : Nat} {N : Nat} {x0 : Nat} {x1 : Int32} {x2 : Int32} {x3 : Int32} {z0 z : St} (hM : mX9_setDue_21 &&& M = mX9_setDue_21)  (h : zFr M z0 z) : zPw M z0 (fX9_setDue_21 N x0 x1 x2 x3 z) := by
  unfold fX9_setDue_21
  exact zw_k (zw_k (zw_lA h (ztb hM rfl) (fun z3 h1 => zw_i (zw_s h1) (zw_lI h1 (ztb hM rfl) (fun z5 h2 => zw_s h2)))))
def mX9_setDue : Nat := 0x80000000000000000000000000000000000000000000000000000000000000000000000000000000000000000000000000000000000000000000000000000000000000000000000000000000000000000000000000000000000000020000000000000000000000000000000000000000000000000000000000000000000000000000000000000000000000000000000000000000000000000000000000000000000000000
theorem wX9_setDue {M : Nat} {N : Nat} {x0 : Nat} {x1 : Int32} {x2 : Int32} {x3 : Int32} {z0 z : St} (hM : mX9_setDue &&& M = mX9_setDue)  (h : zFr M z0 z) : zPw M z0 (fX9_setDue N x0 x1 x2 x3 z) := by
  unfold fX9_setDue
  exact zw_k (zw_k (zw_i (wX9_setDue_21 (ztr rfl hM)  h) (zw_lI h (ztb hM rfl) (fun z4 h1 => wX9_setDue_21 (ztr rfl hM)  h1))))
def mX9_setFriend_59 : Nat := 0x80000000000000000000000000000000000000000000000000000000000000000000000000000000000000000000000000000000000000000000000000000000000000000000000000000000000000000000000000000000000000020000000000000000000000000000000000000000000000000000000000000000000000000000000000000000000000000000000000000000000000000000000000000000000000000
theorem wX9_setFriend_59 {M : Nat} {N : Nat} {K26 : Nat → Int32 → Int32 → Int32 → Int32 → St → Option (Int32 × St)} {x0 : Nat} {x1 : Int32} {x2 : Int32} {x3 : Int32} {x4 : Int32} {s0 : Nat} {s1 : Int32} {s2 : Int32} {s3 : Int32} {z0 z : St} (hM : mX9_setFriend_59 &&& M = mX9_setFriend_59)  (hK26 : ∀ a0 a1 a2 a3 a4 a5, zFr M z0 a5 → zPw M z0 (K26 a0 a1 a2 a3 a4 a5)) (h : zFr M z0 z) : zPw M z0 (fX9_setFriend_59 N K26 x0 x1 x2 x3 x4 s0 s1 s2 s3 z) := by
  unfold fX9_setFriend_59
  exact zw_c (wX9_setDue (ztr rfl hM)  h) (fun _ z2 h1 => zw_l (fun v5 => hK26 _ _ _ _ _ _ h1))
def mX9_setFriend_58 : Nat := 0x80000000000000000000000000000000000000000000000000000000000000000000000000000000000000000000000000000000000000000000000000000000000000000000000000000000000000000000000000000000000000020000000000000000000000000000000000000000000000000000000000000000000000000000000000000000000000000000000000000000000000000000000000000000000000000
theorem wX9_setFriend_58 {M : Nat} {N : Nat} {K26 : Nat → Int32 → Int32 → Int32 → Int32 → St → Option (Int32 × St)} {x0 : Nat} {x1 : Int32} {x2 : Int32} {x3 : Int32} {x4 : Int32} {s0 : Nat} {s1 : Int32} {s2 : Int32} {z0 z : St} (hM : mX9_setFriend_58 &&& M = mX9_setFriend_58)  (hK26 : ∀ a0 a1 a2 a3 a4 a5, zFr M z0 a5 → zPw M z0 (K26 a0 a1 a2 a3 a4 a5)) (h : zFr M z0 z) : zPw M z0 (fX9_setFriend_58 N K26 x0 x1 x2 x3 x4 s0 s1 s2 z) := by
  unfold fX9_setFriend_58
  exact wX9_setFriend_59 (ztr rfl hM) hK26 h
def mX9_setFriend_26b : Nat := 0x80000000000000000000000000000000000000000000000000000000000000000000000000000000000000000000000000000000000000000000000000000000000000000000000000000000000000000000000000000000000000020000000000000000000000000000000000000000000000000000000000000000000000000000000000000000000000000000000000000000000000000000000000000000000000000
theorem wX9_setFriend_26b {M : Nat} {N : Nat} {K26 : Nat → Int32 → Int32 → Int32 → Int32 → St → Option (Int32 × St)} {x0 : Nat} {x1 : Int32} {x2 : Int32} {x3 : Int32} {x4 : Int32} {z0 z : St} (hM : mX9_setFriend_26b &&& M = mX9_setFriend_26b)  (hK26 : ∀ a0 a1 a2 a3 a4 a5, zFr M z0 a5 → zPw M z0 (K26 a0 a1 a2 a3 a4 a5)) (h : zFr M z0 z) : zPw M z0 (fX9_setFriend_26b N K26 x0 x1 x2 x3 x4 z) := by
  unfold fX9_setFriend_26b
  exact zw_i (zw_s h) (zw_i (wX9_setFriend_58 (ztr rfl hM) hK26 h) (zw_l (fun y3 => zw_d (fun a4 => zw_k (zw_i (wX9_setFriend_58 (ztr rfl hM) hK26 h) (wX9_setFriend_59 (ztr rfl hM) hK26 h))))))
def mX9_setFriend_26 : Nat := 0x80000000000000000000000000000000000000000000000000000000000000000000000000000000000000000000000000000000000000000000000000000000000000000000000000000000000000000000000000000000000000020000000000000000000000000000000000000000000000000000000000000000000000000000000000000000000000000000000000000000000000000000000000000000000000000
theorem wX9_setFriend_26 {M : Nat} {z0 : St} {N : Nat}(hM : mX9_setFriend_26 &&& M = mX9_setFriend_26)  : ∀ (n : Nat) (y0 : Nat) (y1 : Int32) (y2 : Int32) (y3 : Int32) (y4 : Int32) (z : St), zFr M z0 z → zPw M z0 (fX9_setFriend_26 N n y0 y1 y2 y3 y4 z) := by
  intro n
  induction n with
  | zero => intro y0 y1 y2 y3 y4 z h; exact zw_n
  | succ n ih => intro y0 y1 y2 y3 y4 z h; exact wX9_setFriend_26b (ztr rfl hM)  (fun _ _ _ _ _ _ h => ih _ _ _ _ _ _ h) h
def mX9_setFriend : Nat := 0xa0000000000000000000000000000000000000000000000000000000000000000000000000000000000000000000000000000000000000000000000000000000000000000000000000000000000000000000000000000000000000420000000000000000000000000000000000000000000000000000000000000000000000000000000000000000000000000000000000000000000000000000000000000000000000000
theorem wX9_setFriend {M : Nat} {N : Nat} {x0 : Nat} {x1 : Int32} {x2 : Int32} {x3 : Int32} {z0 z : St} (hM : mX9_setFriend &&& M = mX9_setFriend)  (h : zFr M z0 z) : zPw M z0 (fX9_setFriend N x0 x1 x2 x3 z) := by
  unfold fX9_setFriend
  exact zw_k (zw_i (zw_k (zw_lA h (ztb hM rfl) (fun z4 h1 => zw_lI h1 (ztb hM rfl) (fun z5 h2 => wX9_setFriend_26 (ztr rfl hM)  _ _ _ _ _ _ _ h2)))) (zw_s h))
def mX9_forget_9b : Nat := 0xb8000000000000000000000000000000000000000000000000000000000000000000000000000000000000000000000000000000000000000000000000000000000000000000000000000000000000000000000000000000000000422000000000000000000000000000000000000000000000000000000000000000000000000000000000000000000000000000000000000000000000000000000000000000000000000
theorem wX9_forget_9b {M : Nat} {N : Nat} {K9 : Nat → Int32 → Int32 → St → Option (Int32 × St)} {x0 : Nat} {x2 : Int32} {x3 : Int32} {z0 z : St} (hM : mX9_forget_9b &&& M = mX9_forget_9b)  (hK9 : ∀ a0 a1 a2 a3, zFr M z0 a3 → zPw M z0 (K9 a0 a1 a2 a3)) (h : zFr M z0 z) : zPw M z0 (fX9_forget_9b N K9 x0 x2 x3 z) := by
  unfold fX9_forget_9b
  exact zw_i (zw_lI h (ztb hM rfl) (fun z2 h1 => zw_k (zw_lA h1 (ztb hM rfl) (fun z4 h2 => zw_c (wX9_setFriend (ztr rfl hM)  h2) (fun _ z6 h3 => zw_s h3))))) (zw_k (zw_k (zw_lA h (ztb hM rfl) (fun z11 h4 => zw_l (fun v12 => hK9 _ _ _ _ h4)))))
def mX9_forget_9 : Nat := 0xb8000000000000000000000000000000000000000000000000000000000000000000000000000000000000000000000000000000000000000000000000000000000000000000000000000000000000000000000000000000000000422000000000000000000000000000000000000000000000000000000000000000000000000000000000000000000000000000000000000000000000000000000000000000000000000
theorem wX9_forget_9 {M : Nat} {z0 : St} {N : Nat}(hM : mX9_forget_9 &&& M = mX9_forget_9)  : ∀ (n : Nat) (y0 : Nat) (y1 : Int32) (y2 : Int32) (z : St), zFr M z0 z → zPw M z0 (fX9_forget_9 N n y0 y1 y2 z) := by
  intro n
  induction n with
  | zero => intro y0 y1 y2 z h; exact zw_n
  | succ n ih => intro y0 y1 y2 z h; exact wX9_forget_9b (ztr rfl hM)  (fun _ _ _ _ h => ih _ _ _ _ h) h
def mX9_forget : Nat := 0xb8000000000000000000000000000000000000000000000000000000000000000000000000000000000000000000000000000000000000000000000000000000000000000000000000000000000000000000000000000000000000422000000000000000000000000000000000000000000000000000000000000000000000000000000000000000000000000000000000000000000000000000000000000000000000000
theorem wX9_forget {M : Nat} {N : Nat} {x0 : Nat} {x1 : Int32} {z0 z : St} (hM : mX9_forget &&& M = mX9_forget)  (h : zFr M z0 z) : zPw M z0 (fX9_forget N x0 x1 z) := by
  unfold fX9_forget
  exact zw_k (zw_l (fun v2 => wX9_forget_9 (ztr rfl hM)  _ _ _ _ _ h))
def mX9_setDueToAll_51 : Nat := 0x0
theorem wX9_setDueToAll_51 {M : Nat} {N : Nat} {K3 : Nat → Int32 → Int32 → Int32 → Int32 → St → Option (Int32 × St)} {x0 : Nat} {x1 : Int32} {x2 : Int32} {x3 : Int32} {x4 : Int32} {z0 z : St} (hM : mX9_setDueToAll_51 &&& M = mX9_setDueToAll_51)  (hK3 : ∀ a0 a1 a2 a3 a4 a5, zFr M z0 a5 → zPw M z0 (K3 a0 a1 a2 a3 a4 a5)) (h : zFr M z0 z) : zPw M z0 (fX9_setDueToAll_51 N K3 x0 x1 x2 x3 x4 z) := by
  unfold fX9_setDueToAll_51
  exact zw_l (fun v1 => hK3 _ _ _ _ _ _ h)
def mX9_setDueToAll_3b : Nat := 0x80000000000000000000000000000000000000000000000000000000000000000000000000000000000000000000000000000000000000000000000000000000000000000000000000000000000000000000000000000000000000020000000000000000000000000000000000000000000000000000000000000000000000000000000000000000000000000000000000000000000000000000000000000000000000000
theorem wX9_setDueToAll_3b {M : Nat} {N : Nat} {K3 : Nat → Int32 → Int32 → Int32 → Int32 → St → Option (Int32 × St)} {x0 : Nat} {x1 : Int32} {x2 : Int32} {x3 : Int32} {x4 : Int32} {z0 z : St} (hM : mX9_setDueToAll_3b &&& M = mX9_setDueToAll_3b)  (hK3 : ∀ a0 a1 a2 a3 a4 a5, zFr M z0 a5 → zPw M z0 (K3 a0 a1 a2 a3 a4 a5)) (h : zFr M z0 z) : zPw M z0 (fX9_setDueToAll_3b N K3 x0 x1 x2 x3 x4 z) := by
  unfold fX9_setDueToAll_3b
  exact zw_i (zw_s h) (zw_k (zw_i (wX9_setDueToAll_51 (ztr rfl hM) hK3 h) (zw_k (zw_k (zw_i (wX9_setDueToAll_51 (ztr rfl hM) hK3 h) (zw_k (zw_c (wX9_setDue (ztr rfl hM)  h) (fun _ z9 h1 => wX9_setDueToAll_51 (ztr rfl hM) hK3 h1))))))))
def mX9_setDueToAll_3 : Nat := 0x80000000000000000000000000000000000000000000000000000000000000000000000000000000000000000000000000000000000000000000000000000000000000000000000000000000000000000000000000000000000000020000000000000000000000000000000000000000000000000000000000000000000000000000000000000000000000000000000000000000000000000000000000000000000000000
theorem wX9_setDueToAll_3 {M : Nat} {z0 : St} {N : Nat}(hM : mX9_setDueToAll_3 &&& M = mX9_setDueToAll_3)  : ∀ (n : Nat) (y0 : Nat) (y1 : Int32) (y2 : Int32) (y3 : Int32) (y4 : Int32) (z : St), zFr M z0 z → zPw M z0 (fX9_setDueToAll_3 N n y0 y1 y2 y3 y4 z) := by
  intro n
  induction n with
  | zero => intro y0 y1 y2 y3 y4 z h; exact zw_n
  | succ n ih => intro y0 y1 y2 y3 y4 z h; exact wX9_setDueToAll_3b (ztr rfl hM)  (fun _ _ _ _ _ _ h => ih _ _ _ _ _ _ h) h
def mX9_setDueToAll : Nat := 0x80000000000000000000000000000000000000000000000000000000000000000000000000000000000000000000000000000000000000000000000000000000000000000000000000000000000000000000000000000000000000020000000000000000000000000000000000000000000000000000000000000000000000000000000000000000000000000000000000000000000000000000000000000000000000000
theorem wX9_setDueToAll {M : Nat} {N : Nat} {x0 : Nat} {x1 : Int32} {x2 : Int32} {x3 : Int32} {z0 z : St} (hM : mX9_setDueToAll &&& M = mX9_setDueToAll)  (h : zFr M z0 z) : zPw M z0 (fX9_setDueToAll N x0 x1 x2 x3 z) := by
  unfold fX9_setDueToAll
  exact wX9_setDueToAll_3 (ztr rfl hM)  _ _ _ _ _ _ _ h
def mX9_clearDueOf_2b : Nat := 0x80000000000000000000000000000000000000000000000000000000000000000000000000000000000000000000000000000000000000000000000000000000000000000000000000000000000000000000000000000000000000020000000000000000000000000000000000000000000000000000000000000000000000000000000000000000000000000000000000000000000000000000000000000000000000000
theorem wX9_clearDueOf_2b {M : Nat} {N : Nat} {K2 : Nat → Int32 → Int32 → St → Option (Int32 × St)} {x0 : Nat} {x1 : Int32} {x2 : Int32} {z0 z : St} (hM : mX9_clearDueOf_2b &&& M = mX9_clearDueOf_2b)  (hK2 : ∀ a0 a1 a2 a3, zFr M z0 a3 → zPw M z0 (K2 a0 a1 a2 a3)) (h : zFr M z0 z) : zPw M z0 (fX9_clearDueOf_2b N K2 x0 x1 x2 z) := by
  unfold fX9_clearDueOf_2b
  exact zw_i (zw_s h) (zw_k (zw_c (wX9_setDue (ztr rfl hM)  h) (fun _ z4 h1 => zw_l (fun v7 => hK2 _ _ _ _ h1))))
def mX9_clearDueOf_2 : Nat := 0x80000000000000000000000000000000000000000000000000000000000000000000000000000000000000000000000000000000000000000000000000000000000000000000000000000000000000000000000000000000000000020000000000000000000000000000000000000000000000000000000000000000000000000000000000000000000000000000000000000000000000000000000000000000000000000
theorem wX9_clearDueOf_2 {M : Nat} {z0 : St} {N : Nat}(hM : mX9_clearDueOf_2 &&& M = mX9_clearDueOf_2)  : ∀ (n : Nat) (y0 : Nat) (y1 : Int32) (y2 : Int32) (z : St), zFr M z0 z → zPw M z0 (fX9_clearDueOf_2 N n y0 y1 y2 z) := by
  intro n
  induction n with
  | zero => intro y0 y1 y2 z h; exact zw_n
  | succ n ih => intro y0 y1 y2 z h; exact wX9_clearDueOf_2b (ztr rfl hM)  (fun _ _ _ _ h => ih _ _ _ _ h) h
def mX9_clearDueOf : Nat := 0x80000000000000000000000000000000000000000000000000000000000000000000000000000000000000000000000000000000000000000000000000000000000000000000000000000000000000000000000000000000000000020000000000000000000000000000000000000000000000000000000000000000000000000000000000000000000000000000000000000000000000000000000000000000000000000
theorem wX9_clearDueOf {M : Nat} {N : Nat} {x0 : Nat} {x1 : Int32} {z0 z : St} (hM : mX9_clearDueOf &&& M = mX9_clearDueOf)  (h : zFr M z0 z) : zPw M z0 (fX9_clearDueOf N x0 x1 z) := by
  unfold fX9_clearDueOf
  exact wX9_clearDueOf_2 (ztr rfl hM)  _ _ _ _ _ h
def mX9_addThanks : Nat := 0x700000000000000000000000000000000000000000000000000000000000000000000000000000000000000000000000000000000000000000000000000000000000000000000000000000000000000000000000000000000000000200000000000000000000000000000000000000000000000000000000000000000000000000000000000000000000000000000000000000000000000000000000000000000000000000
theorem wX9_addThanks {M : Nat} {N : Nat} {x0 : Nat} {x1 : Int32} {x2 : Int32} {x3 : Int32} {z0 z : St} (hM : mX9_addThanks &&& M = mX9_addThanks)  (h : zFr M z0 z) : zPw M z0 (fX9_addThanks N x0 x1 x2 x3 z) := by
  unfold fX9_addThanks
  exact zw_i (zw_k (zw_lA h (ztb hM rfl) (fun z3 h1 => zw_k (zw_lA h1 (ztb hM rfl) (fun z5 h2 => zw_k (zw_lA h2 (ztb hM rfl) (fun z7 h3 => zw_lI h3 (ztb hM rfl) (fun z8 h4 => zw_s h4)))))))) (zw_s h)
def mX9_draftFriends_64 : Nat := 0x0
theorem wX9_draftFriends_64 {M : Nat} {N : Nat} {K2 : Nat → Nat → Int32 → St → Option (Int32 × St)} {x0 : Nat} {x1 : Nat} {x2 : Int32} {z0 z : St} (hM : mX9_draftFriends_64 &&& M = mX9_draftFriends_64)  (hK2 : ∀ a0 a1 a2 a3, zFr M z0 a3 → zPw M z0 (K2 a0 a1 a2 a3)) (h : zFr M z0 z) : zPw M z0 (fX9_draftFriends_64 N K2 x0 x1 x2 z) := by
  unfold fX9_draftFriends_64
  exact zw_l (fun v1 => hK2 _ _ _ _ h)
def mX9_draftFriends_2b : Nat := 0x2000000000000000000000000000000000000000000000000000000000000000000000000000000000000000000000000000000000000000000000000000000000000000000000000000000000000000000000000000000000000000000000000000000000000000000000000000000000000000000000000000000000000000000000000000000000000000000000000000000000000000000000000000000040
theorem wX9_draftFriends_2b {M : Nat} {N : Nat} {K2 : Nat → Nat → Int32 → St → Option (Int32 × St)} {x0 : Nat} {x1 : Nat} {x2 : Int32} {z0 z : St} (hM : mX9_draftFriends_2b &&& M = mX9_draftFriends_2b)  (hK2 : ∀ a0 a1 a2 a3, zFr M z0 a3 → zPw M z0 (K2 a0 a1 a2 a3)) (h : zFr M z0 z) : zPw M z0 (fX9_draftFriends_2b N K2 x0 x1 x2 z) := by
  unfold fX9_draftFriends_2b
  exact zw_i (zw_s h) (zw_k (zw_l (fun v3 => zw_i (wX9_draftFriends_64 (ztr rfl hM) hK2 h) (zw_k (zw_i (zw_l (fun y7 => zw_l (fun y8 => zw_d (fun a9 => zw_d (fun a10 => zw_c (wX0_addToDraft (ztr rfl hM)  h) (fun _ z12 h1 => wX9_draftFriends_64 (ztr rfl hM) hK2 h1)))))) (wX9_draftFriends_64 (ztr rfl hM) hK2 h))))))
def mX9_draftFriends_2 : Nat := 0x2000000000000000000000000000000000000000000000000000000000000000000000000000000000000000000000000000000000000000000000000000000000000000000000000000000000000000000000000000000000000000000000000000000000000000000000000000000000000000000000000000000000000000000000000000000000000000000000000000000000000000000000000000000040
theorem wX9_draftFriends_2 {M : Nat} {z0 : St} {N : Nat}(hM : mX9_draftFriends_2 &&& M = mX9_draftFriends_2)  : ∀ (n : Nat) (y0 : Nat) (y1 : Nat) (y2 : Int32) (z : St), zFr M z0 z → zPw M z0 (fX9_draftFriends_2 N n y0 y1 y2 z) := by
  intro n
  induction n with
  | zero => intro y0 y1 y2 z h; exact zw_n
  | succ n ih => intro y0 y1 y2 z h; exact wX9_draftFriends_2b (ztr rfl hM)  (fun _ _ _ _ h => ih _ _ _ _ h) h
def mX9_draftFriends : Nat := 0x2000000000000000000000000000000000000000000000000000000000000000000000000000000000000000000000000000000000000000000000000000000000000000000000000000000000000000000000000000000000000000000000000000000000000000000000000000000000000000000000000000000000000000000000000000000000000000000000000000000000000000000000000000000040
theorem wX9_draftFriends {M : Nat} {N : Nat} {x0 : Nat} {x1 : Nat} {z0 z : St} (hM : mX9_draftFriends &&& M = mX9_draftFriends)  (h : zFr M z0 z) : zPw M z0 (fX9_draftFriends N x0 x1 z) := by
  unfold fX9_draftFriends
  exact wX9_draftFriends_2 (ztr rfl hM)  _ _ _ _ _ h
def mX9_draftAdvert_52 : Nat := 0x0
theorem wX9_draftAdvert_52 {M : Nat} {N : Nat} {K10 : Nat → Nat → Int32 → Int32 → St → Option (Int32 × St)} {x0 : Nat} {x1 : Nat} {x2 : Int32} {x3 : Int32} {z0 z : St} (hM : mX9_draftAdvert_52 &&& M = mX9_draftAdvert_52)  (hK10 : ∀ a0 a1 a2 a3 a4, zFr M z0 a4 → zPw M z0 (K10 a0 a1 a2 a3 a4)) (h : zFr M z0 z) : zPw M z0 (fX9_draftAdvert_52 N K10 x0 x1 x2 x3 z) := by
  unfold fX9_draftAdvert_52
  exact zw_l (fun v1 => hK10 _ _ _ _ _ h)
def mX9_draftAdvert_83 : Nat := 0x0
theorem wX9_draftAdvert_83 {M : Nat} {N : Nat} {K60 : Nat → Nat → Int32 → Int32 → St → Option (Int32 × St)} {x0 : Nat} {x1 : Nat} {x2 : Int32} {x3 : Int32} {z0 z : St} (hM : mX9_draftAdvert_83 &&& M = mX9_draftAdvert_83)  (hK60 : ∀ a0 a1 a2 a3 a4, zFr M z0 a4 → zPw M z0 (K60 a0 a1 a2 a3 a4)) (h : zFr M z0 z) : zPw M z0 (fX9_draftAdvert_83 N K60 x0 x1 x2 x3 z) := by
  unfold fX9_draftAdvert_83
  exact zw_l (fun v1 => hK60 _ _ _ _ _ h)
def mX9_draftAdvert_60b : Nat := 0x2000000000000000000000000000000000000000000000000000000000000000000000000000000000000000000000000000000000000000000000000000000000000000000000000000000000000000000000000000000000000000000000000000000000000000000000000000000000000000000000000000000000000000000000000000000000000000000000000000000000000000000000000000000040
theorem wX9_draftAdvert_60b {M : Nat} {N : Nat} {K60 : Nat → Nat → Int32 → Int32 → St → Option (Int32 × St)} {x0 : Nat} {x1 : Nat} {x2 : Int32} {x3 : Int32} {z0 z : St} (hM : mX9_draftAdvert_60b &&& M = mX9_draftAdvert_60b)  (hK60 : ∀ a0 a1 a2 a3 a4, zFr M z0 a4 → zPw M z0 (K60 a0 a1 a2 a3 a4)) (h : zFr M z0 z) : zPw M z0 (fX9_draftAdvert_60b N K60 x0 x1 x2 x3 z) := by
  unfold fX9_draftAdvert_60b
  exact zw_i (zw_s h) (zw_c (wX1_portOn (ztr rfl hM)  h) (fun r2 z3 h1 => zw_o (wX9_draftAdvert_83 (ztr rfl hM) hK60 h1) (fun a7 => zw_c (wX9_draftFriends (ztr rfl hM)  h1) (fun _ z9 h2 => wX9_draftAdvert_83 (ztr rfl hM) hK60 h2))))
def mX9_draftAdvert_60 : Nat := 0x2000000000000000000000000000000000000000000000000000000000000000000000000000000000000000000000000000000000000000000000000000000000000000000000000000000000000000000000000000000000000000000000000000000000000000000000000000000000000000000000000000000000000000000000000000000000000000000000000000000000000000000000000000000040
theorem wX9_draftAdvert_60 {M : Nat} {z0 : St} {N : Nat}(hM : mX9_draftAdvert_60 &&& M = mX9_draftAdvert_60)  : ∀ (n : Nat) (y0 : Nat) (y1 : Nat) (y2 : Int32) (y3 : Int32) (z : St), zFr M z0 z → zPw M z0 (fX9_draftAdvert_60 N n y0 y1 y2 y3 z) := by
  intro n
  induction n with
  | zero => intro y0 y1 y2 y3 z h; exact zw_n
  | succ n ih => intro y0 y1 y2 y3 z h; exact wX9_draftAdvert_60b (ztr rfl hM)  (fun _ _ _ _ _ h => ih _ _ _ _ _ h) h
def mX9_draftAdvert_10b : Nat := 0x2000000000000000000000000000000000000000000000000000000000000000000000000000000000000000000000000000000000000000000000000000000000000000000000000000000000000000000000000000000000000000000000000000000000000000000000000000000000000000000000000000000000000000000000000000000000000000000000000000000000000000000000000000000040
theorem wX9_draftAdvert_10b {M : Nat} {N : Nat} {K10 : Nat → Nat → Int32 → Int32 → St → Option (Int32 × St)} {x0 : Nat} {x1 : Nat} {x2 : Int32} {x3 : Int32} {z0 z : St} (hM : mX9_draftAdvert_10b &&& M = mX9_draftAdvert_10b)  (hK10 : ∀ a0 a1 a2 a3 a4, zFr M z0 a4 → zPw M z0 (K10 a0 a1 a2 a3 a4)) (h : zFr M z0 z) : zPw M z0 (fX9_draftAdvert_10b N K10 x0 x1 x2 x3 z) := by
  unfold fX9_draftAdvert_10b
  exact zw_i (wX9_draftAdvert_60 (ztr rfl hM)  _ _ _ _ _ _ h) (zw_c (wX1_portOn (ztr rfl hM)  h) (fun r2 z3 h1 => zw_o (wX9_draftAdvert_52 (ztr rfl hM) hK10 h1) (fun a7 => zw_l (fun y8 => zw_d (fun a9 => zw_i (wX9_draftAdvert_52 (ztr rfl hM) hK10 h1) (zw_l (fun y11 => zw_d (fun a12 => zw_c (wX0_addToDraft (ztr rfl hM)  h1) (fun _ z14 h2 => wX9_draftAdvert_52 (ztr rfl hM) hK10 h2)))))))))
def mX9_draftAdvert_10 : Nat := 0x2000000000000000000000000000000000000000000000000000000000000000000000000000000000000000000000000000000000000000000000000000000000000000000000000000000000000000000000000000000000000000000000000000000000000000000000000000000000000000000000000000000000000000000000000000000000000000000000000000000000000000000000000000000040
theorem wX9_draftAdvert_10 {M : Nat} {z0 : St} {N : Nat}(hM : mX9_draftAdvert_10 &&& M = mX9_draftAdvert_10)  : ∀ (n : Nat) (y0 : Nat) (y1 : Nat) (y2 : Int32) (y3 : Int32) (z : St), zFr M z0 z → zPw M z0 (fX9_draftAdvert_10 N n y0 y1 y2 y3 z) := by
  intro n
  induction n with
  | zero => intro y0 y1 y2 y3 z h; exact zw_n
  | succ n ih => intro y0 y1 y2 y3 z h; exact wX9_draftAdvert_10b (ztr rfl hM)  (fun _ _ _ _ _ h => ih _ _ _ _ _ h) h
def mX9_draftAdvert : Nat := 0x2000000000000000000000000000000000000000000000000000000000000000000000000000000000000000000000000000000000000000000000000000000000000000000000000000000000000000000000000000000000000000000000000000000000000000000000000000000000000000000000000000000000000000000000000000000000000000000000000000000000000000000000000000000040
theorem wX9_draftAdvert {M : Nat} {N : Nat} {x0 : Nat} {x1 : Nat} {x2 : Int32} {z0 z : St} (hM : mX9_draftAdvert &&& M = mX9_draftAdvert)  (h : zFr M z0 z) : zPw M z0 (fX9_draftAdvert N x0 x1 x2 z) := by
  unfold fX9_draftAdvert
  exact zw_l (fun y1 => zw_d (fun a2 => zw_lI h (ztb hM rfl) (fun z3 h1 => wX9_draftAdvert_10 (ztr rfl hM)  _ _ _ _ _ _ h1)))
def mX11_underWay : Nat := 0x0
theorem wX11_underWay {M : Nat} {N : Nat} {x0 : Nat} {z0 z : St} (hM : mX11_underWay &&& M = mX11_underWay)  (h : zFr M z0 z) : zPw M z0 (fX11_underWay N x0 z) := by
  unfold fX11_underWay
  exact zw_s h
def mX11_time : Nat := 0x0
theorem wX11_time {M : Nat} {N : Nat} {x0 : Nat} {z0 z : St} (hM : mX11_time &&& M = mX11_time)  (h : zFr M z0 z) : zPw M z0 (fX11_time N x0 z) := by
  unfold fX11_time
  exact zw_s h
def mX11_calmBound_4b : Nat := 0x0
theorem wX11_calmBound_4b {M : Nat} {N : Nat} {K4 : Nat → Int32 → Int32 → St → Option (Int32 × St)} {x0 : Nat} {x1 : Int32} {x2 : Int32} {z0 z : St} (hM : mX11_calmBound_4b &&& M = mX11_calmBound_4b)  (hK4 : ∀ a0 a1 a2 a3, zFr M z0 a3 → zPw M z0 (K4 a0 a1 a2 a3)) (h : zFr M z0 z) : zPw M z0 (fX11_calmBound_4b N K4 x0 x1 x2 z) := by
  unfold fX11_calmBound_4b
  exact zw_i (zw_s h) (zw_k (zw_l (fun y3 => zw_d (fun a4 => zw_l (fun v5 => zw_l (fun v6 => hK4 _ _ _ _ h))))))
def mX11_calmBound_4 : Nat := 0x0
theorem wX11_calmBound_4 {M : Nat} {z0 : St} {N : Nat}(hM : mX11_calmBound_4 &&& M = mX11_calmBound_4)  : ∀ (n : Nat) (y0 : Nat) (y1 : Int32) (y2 : Int32) (z : St), zFr M z0 z → zPw M z0 (fX11_calmBound_4 N n y0 y1 y2 z) := by
  intro n
  induction n with
  | zero => intro y0 y1 y2 z h; exact zw_n
  | succ n ih => intro y0 y1 y2 z h; exact wX11_calmBound_4b (ztr rfl hM)  (fun _ _ _ _ h => ih _ _ _ _ h) h
def mX11_calmBound : Nat := 0x0
theorem wX11_calmBound {M : Nat} {N : Nat} {x0 : Nat} {z0 z : St} (hM : mX11_calmBound &&& M = mX11_calmBound)  (h : zFr M z0 z) : zPw M z0 (fX11_calmBound N x0 z) := by
  unfold fX11_calmBound
  exact wX11_calmBound_4 (ztr rfl hM)  _ _ _ _ _ h
def mX11_bound : Nat := 0x0
theorem wX11_bound {M : Nat} {N : Nat} {x0 : Nat} {z0 z : St} (hM : mX11_bound &&& M = mX11_bound)  (h : zFr M z0 z) : zPw M z0 (fX11_bound N x0 z) := by
  unfold fX11_bound
  exact zw_c (wX11_calmBound (ztr rfl hM)  h) (fun r1 z2 h1 => zw_s h1)
def mX11_strays : Nat := 0x0
theorem wX11_strays {M : Nat} {N : Nat} {x0 : Nat} {z0 z : St} (hM : mX11_strays &&& M = mX11_strays)  (h : zFr M z0 z) : zPw M z0 (fX11_strays N x0 z) := by
  unfold fX11_strays
  exact zw_s h
def mX11_isNetAddress : Nat := 0x0
theorem wX11_isNetAddress {M : Nat} {N : Nat} {x0 : Nat} {x1 : Int32} {z0 z : St} (hM : mX11_isNetAddress &&& M = mX11_isNetAddress)  (h : zFr M z0 z) : zPw M z0 (fX11_isNetAddress N x0 x1 z) := by
  unfold fX11_isNetAddress
  exact zw_i (zw_s h) (zw_i (zw_l (fun v3 => zw_i (zw_s h) (zw_i (zw_s h) (zw_s h)))) (zw_s h))
def mX11_portOfAddress_25 : Nat := 0x0
theorem wX11_portOfAddress_25 {M : Nat} {N : Nat} {x1 : Int32} {s0 : Option Nat} {z0 z : St} (hM : mX11_portOfAddress_25 &&& M = mX11_portOfAddress_25)  (h : zFr M z0 z) : zPw M z0 (fX11_portOfAddress_25 N x1 s0 z) := by
  unfold fX11_portOfAddress_25
  exact zw_o (zw_s h) (fun a2 => zw_l (fun v3 => zw_i (zw_s h) (zw_k (zw_l (fun y6 => zw_s h)))))
def mX11_portOfAddress : Nat := 0x0
theorem wX11_portOfAddress {M : Nat} {N : Nat} {x0 : Nat} {x1 : Int32} {z0 z : St} (hM : mX11_portOfAddress &&& M = mX11_portOfAddress)  (h : zFr M z0 z) : zPw M z0 (fX11_portOfAddress N x0 x1 z) := by
  unfold fX11_portOfAddress
  exact zw_c (wX11_isNetAddress (ztr rfl hM)  h) (fun r1 z2 h1 => zw_i (wX11_portOfAddress_25 (ztr rfl hM)  h1) (zw_k (zw_l (fun y7 => wX11_portOfAddress_25 (ztr rfl hM)  h1))))
def mX11_joinedWith_122 : Nat := 0x0
theorem wX11_joinedWith_122 {M : Nat} {N : Nat} {K60 : Nat → Nat → Int32 → Int32 → St → Option (Int32 × St)} {K70 : Nat → Nat → Int32 → Int32 → Int32 → St → Option (Int32 × St)} {x0 : Nat} {x4 : Nat} {x5 : Int32} {x6 : Int32} {x7 : Int32} {z0 z : St} (hM : mX11_joinedWith_122 &&& M = mX11_joinedWith_122)  (hK60 : ∀ a0 a1 a2 a3 a4, zFr M z0 a4 → zPw M z0 (K60 a0 a1 a2 a3 a4)) (hK70 : ∀ a0 a1 a2 a3 a4 a5, zFr M z0 a5 → zPw M z0 (K70 a0 a1 a2 a3 a4 a5)) (h : zFr M z0 z) : zPw M z0 (fX11_joinedWith_122 N K60 K70 x0 x4 x5 x6 x7 z) := by
  unfold fX11_joinedWith_122
  exact zw_l (fun v1 => hK70 _ _ _ _ _ _ h)
def mX11_joinedWith_70b : Nat := 0x0
theorem wX11_joinedWith_70b {M : Nat} {N : Nat} {K60 : Nat → Nat → Int32 → Int32 → St → Option (Int32 × St)} {K70 : Nat → Nat → Int32 → Int32 → Int32 → St → Option (Int32 × St)} {x0 : Nat} {x4 : Nat} {x5 : Int32} {x6 : Int32} {x7 : Int32} {z0 z : St} (hM : mX11_joinedWith_70b &&& M = mX11_joinedWith_70b)  (hK60 : ∀ a0 a1 a2 a3 a4, zFr M z0 a4 → zPw M z0 (K60 a0 a1 a2 a3 a4)) (hK70 : ∀ a0 a1 a2 a3 a4 a5, zFr M z0 a5 → zPw M z0 (K70 a0 a1 a2 a3 a4 a5)) (h : zFr M z0 z) : zPw M z0 (fX11_joinedWith_70b N K60 K70 x0 x4 x5 x6 x7 z) := by
  unfold fX11_joinedWith_70b
  exact zw_i (zw_l (fun v2 => hK60 _ _ _ _ _ h)) (zw_k (zw_l (fun y4 => zw_d (fun a5 => zw_i (zw_k (zw_l (fun y8 => zw_d (fun a9 => zw_c (wX1_netsUp (ztr rfl hM)  h) (fun r10 z11 h1 => zw_i (wX11_joinedWith_122 (ztr rfl hM) hK60 hK70 h1) (zw_l (fun v15 => wX11_joinedWith_122 (ztr rfl hM) hK60 hK70 h1))))))) (wX11_joinedWith_122 (ztr rfl hM) hK60 hK70 h)))))
def mX11_joinedWith_70 : Nat := 0x0
theorem wX11_joinedWith_70 {M : Nat} {z0 : St} {N : Nat} {K60 : Nat → Nat → Int32 → Int32 → St → Option (Int32 × St)}(hM : mX11_joinedWith_70 &&& M = mX11_joinedWith_70)  (hK60 : ∀ a0 a1 a2 a3 a4, zFr M z0 a4 → zPw M z0 (K60 a0 a1 a2 a3 a4)) : ∀ (n : Nat) (y0 : Nat) (y1 : Nat) (y2 : Int32) (y3 : Int32) (y4 : Int32) (z : St), zFr M z0 z → zPw M z0 (fX11_joinedWith_70 N K60 n y0 y1 y2 y3 y4 z) := by
  intro n
  induction n with
  | zero => intro y0 y1 y2 y3 y4 z h; exact zw_n
  | succ n ih => intro y0 y1 y2 y3 y4 z h; exact wX11_joinedWith_70b (ztr rfl hM) hK60 (fun _ _ _ _ _ _ h => ih _ _ _ _ _ _ h) h
def mX11_joinedWith_60b : Nat := 0x0
theorem wX11_joinedWith_60b {M : Nat} {N : Nat} {K60 : Nat → Nat → Int32 → Int32 → St → Option (Int32 × St)} {x0 : Nat} {x4 : Nat} {x5 : Int32} {x6 : Int32} {z0 z : St} (hM : mX11_joinedWith_60b &&& M = mX11_joinedWith_60b)  (hK60 : ∀ a0 a1 a2 a3 a4, zFr M z0 a4 → zPw M z0 (K60 a0 a1 a2 a3 a4)) (h : zFr M z0 z) : zPw M z0 (fX11_joinedWith_60b N K60 x0 x4 x5 x6 z) := by
  unfold fX11_joinedWith_60b
  exact zw_i (zw_l (fun y2 => zw_d (fun a3 => zw_i (zw_s h) (zw_s h)))) (wX11_joinedWith_70 (ztr rfl hM) hK60 _ _ _ _ _ _ _ h)
def mX11_joinedWith_60 : Nat := 0x0
theorem wX11_joinedWith_60 {M : Nat} {z0 : St} {N : Nat}(hM : mX11_joinedWith_60 &&& M = mX11_joinedWith_60)  : ∀ (n : Nat) (y0 : Nat) (y1 : Nat) (y2 : Int32) (y3 : Int32) (z : St), zFr M z0 z → zPw M z0 (fX11_joinedWith_60 N n y0 y1 y2 y3 z) := by
  intro n
  induction n with
  | zero => intro y0 y1 y2 y3 z h; exact zw_n
  | succ n ih => intro y0 y1 y2 y3 z h; exact wX11_joinedWith_60b (ztr rfl hM)  (fun _ _ _ _ _ h => ih _ _ _ _ _ h) h
def mX11_joinedWith : Nat := 0x0
theorem wX11_joinedWith {M : Nat} {N : Nat} {x0 : Nat} {x1 : Nat} {x2 : Int32} {z0 z : St} (hM : mX11_joinedWith &&& M = mX11_joinedWith)  (h : zFr M z0 z) : zPw M z0 (fX11_joinedWith N x0 x1 x2 z) := by
  unfold fX11_joinedWith
  exact zw_k (zw_l (fun y2 => zw_c (wX11_portOfAddress (ztr rfl hM)  h) (fun r3 z4 h1 => zw_o (zw_s h1) (fun a8 => zw_o (zw_s h1) (fun a10 => zw_l (fun y11 => zw_d (fun a12 => zw_i (zw_s h1) (zw_l (fun y14 => zw_d (fun a15 => zw_i (zw_l (fun y17 => zw_d (fun a18 => zw_l (fun v19 => wX11_joinedWith_60 (ztr rfl hM)  _ _ _ _ _ _ h1)))) (zw_s h1)))))))))))
def mX11_stuckEnds_85 : Nat := 0x0
theorem wX11_stuckEnds_85 {M : Nat} {N : Nat} {K4 : Nat → Nat → Int32 → Int32 → St → Option (Int32 × St)} {x0 : Nat} {x1 : Nat} {x2 : Int32} {x3 : Int32} {z0 z : St} (hM : mX11_stuckEnds_85 &&& M = mX11_stuckEnds_85)  (hK4 : ∀ a0 a1 a2 a3 a4, zFr M z0 a4 → zPw M z0 (K4 a0 a1 a2 a3 a4)) (h : zFr M z0 z) : zPw M z0 (fX11_stuckEnds_85 N K4 x0 x1 x2 x3 z) := by
  unfold fX11_stuckEnds_85
  exact zw_l (fun v1 => hK4 _ _ _ _ _ h)
def mX11_stuckEnds_4b : Nat := 0x0
theorem wX11_stuckEnds_4b {M : Nat} {N : Nat} {K4 : Nat → Nat → Int32 → Int32 → St → Option (Int32 × St)} {x0 : Nat} {x1 : Nat} {x2 : Int32} {x3 : Int32} {z0 z : St} (hM : mX11_stuckEnds_4b &&& M = mX11_stuckEnds_4b)  (hK4 : ∀ a0 a1 a2 a3 a4, zFr M z0 a4 → zPw M z0 (K4 a0 a1 a2 a3 a4)) (h : zFr M z0 z) : zPw M z0 (fX11_stuckEnds_4b N K4 x0 x1 x2 x3 z) := by
  unfold fX11_stuckEnds_4b
  exact zw_i (zw_s h) (zw_k (zw_l (fun y3 => zw_d (fun a4 => zw_i (wX11_stuckEnds_85 (ztr rfl hM) hK4 h) (zw_l (fun y6 => zw_d (fun a7 => zw_i (wX11_stuckEnds_85 (ztr rfl hM) hK4 h) (zw_l (fun y9 => zw_d (fun a10 => zw_i (zw_l (fun y12 => zw_d (fun a13 => zw_l (fun y14 => zw_d (fun a15 => zw_i (wX11_stuckEnds_85 (ztr rfl hM) hK4 h) (zw_c (wX11_joinedWith (ztr rfl hM)  h) (fun r17 z18 h1 => zw_i (wX11_stuckEnds_85 (ztr rfl hM) hK4 h1) (zw_l (fun v22 => wX11_stuckEnds_85 (ztr rfl hM) hK4 h1))))))))) (wX11_stuckEnds_85 (ztr rfl hM) hK4 h)))))))))))
def mX11_stuckEnds_4 : Nat := 0x0
theorem wX11_stuckEnds_4 {M : Nat} {z0 : St} {N : Nat}(hM : mX11_stuckEnds_4 &&& M = mX11_stuckEnds_4)  : ∀ (n : Nat) (y0 : Nat) (y1 : Nat) (y2 : Int32) (y3 : Int32) (z : St), zFr M z0 z → zPw M z0 (fX11_stuckEnds_4 N n y0 y1 y2 y3 z) := by
  intro n
  induction n with
  | zero => intro y0 y1 y2 y3 z h; exact zw_n
  | succ n ih => intro y0 y1 y2 y3 z h; exact wX11_stuckEnds_4b (ztr rfl hM)  (fun _ _ _ _ _ h => ih _ _ _ _ _ h) h
def mX11_stuckEnds : Nat := 0x0
theorem wX11_stuckEnds {M : Nat} {N : Nat} {x0 : Nat} {x1 : Nat} {z0 z : St} (hM : mX11_stuckEnds &&& M = mX11_stuckEnds)  (h : zFr M z0 z) : zPw M z0 (fX11_stuckEnds N x0 x1 z) := by
  unfold fX11_stuckEnds
  exact wX11_stuckEnds_4 (ztr rfl hM)  _ _ _ _ _ _ h
def mX11_spreadReach_120 : Nat := 0x0
theorem wX11_spreadReach_120 {M : Nat} {N : Nat} {K4 : Nat → Nat → Int32 → Int32 → St → Option (Int32 × St)} {K40 : Nat → Nat → Int32 → Int32 → Nat → Int32 → Int32 → St → Option (Int32 × St)} {x0 : Nat} {x1 : Nat} {x2 : Int32} {x3 : Int32} {x4 : Nat} {x5 : Int32} {x6 : Int32} {z0 z : St} (hM : mX11_spreadReach_120 &&& M = mX11_spreadReach_120)  (hK4 : ∀ a0 a1 a2 a3 a4, zFr M z0 a4 → zPw M z0 (K4 a0 a1 a2 a3 a4)) (hK40 : ∀ a0 a1 a2 a3 a4 a5 a6 a7, zFr M z0 a7 → zPw M z0 (K40 a0 a1 a2 a3 a4 a5 a6 a7)) (h : zFr M z0 z) : zPw M z0 (fX11_spreadReach_120 N K4 K40 x0 x1 x2 x3 x4 x5 x6 z) := by
  unfold fX11_spreadReach_120
  exact zw_l (fun v1 => hK40 _ _ _ _ _ _ _ _ h)
def mX11_spreadReach_126 : Nat := 0x0
theorem wX11_spreadReach_126 {M : Nat} {N : Nat} {K4 : Nat → Nat → Int32 → Int32 → St → Option (Int32 × St)} {x0 : Nat} {x1 : Nat} {x2 : Int32} {x3 : Int32} {z0 z : St} (hM : mX11_spreadReach_126 &&& M = mX11_spreadReach_126)  (hK4 : ∀ a0 a1 a2 a3 a4, zFr M z0 a4 → zPw M z0 (K4 a0 a1 a2 a3 a4)) (h : zFr M z0 z) : zPw M z0 (fX11_spreadReach_126 N K4 x0 x1 x2 x3 z) := by
  unfold fX11_spreadReach_126
  exact zw_l (fun v1 => hK4 _ _ _ _ _ h)
def mX11_spreadReach_40b : Nat := 0x40000000000000000000000000000000000000000000000000000000000000000000000000000000000000000000000000000000000000000000000000000000000000000000000000000000000000000000000000000000000000000000000000000000000000000000000000000000000000000000000000000000000000000000000000000000000000000000000000000000000000000000000000000000000000000000
theorem wX11_spreadReach_40b {M : Nat} {N : Nat} {K4 : Nat → Nat → Int32 → Int32 → St → Option (Int32 × St)} {K40 : Nat → Nat → Int32 → Int32 → Nat → Int32 → Int32 → St → Option (Int32 × St)} {x0 : Nat} {x1 : Nat} {x2 : Int32} {x3 : Int32} {x4 : Nat} {x5 : Int32} {x6 : Int32} {z0 z : St} (hM : mX11_spreadReach_40b &&& M = mX11_spreadReach_40b)  (hK4 : ∀ a0 a1 a2 a3 a4, zFr M z0 a4 → zPw M z0 (K4 a0 a1 a2 a3 a4)) (hK40 : ∀ a0 a1 a2 a3 a4 a5 a6 a7, zFr M z0 a7 → zPw M z0 (K40 a0 a1 a2 a3 a4 a5 a6 a7)) (h : zFr M z0 z) : zPw M z0 (fX11_spreadReach_40b N K4 K40 x0 x1 x2 x3 x4 x5 x6 z) := by
  unfold fX11_spreadReach_40b
  exact zw_l (fun y1 => zw_d (fun a2 => zw_i (wX11_spreadReach_126 (ztr rfl hM) hK4 h) (zw_l (fun y4 => zw_d (fun a5 => zw_i (wX11_spreadReach_126 (ztr rfl hM) hK4 h) (zw_l (fun y7 => zw_d (fun a8 => zw_k (zw_l (fun y10 => zw_d (fun a11 => zw_l (fun y12 => zw_d (fun a13 => zw_i (wX11_spreadReach_120 (ztr rfl hM) hK4 hK40 h) (zw_k (zw_i (zw_k (zw_lA h (ztb hM rfl) (fun z18 h1 => wX11_spreadReach_120 (ztr rfl hM) hK4 hK40 h1))) (wX11_spreadReach_120 (ztr rfl hM) hK4 hK40 h))))))))))))))))
def mX11_spreadReach_40 : Nat := 0x40000000000000000000000000000000000000000000000000000000000000000000000000000000000000000000000000000000000000000000000000000000000000000000000000000000000000000000000000000000000000000000000000000000000000000000000000000000000000000000000000000000000000000000000000000000000000000000000000000000000000000000000000000000000000000000
theorem wX11_spreadReach_40 {M : Nat} {z0 : St} {N : Nat} {K4 : Nat → Nat → Int32 → Int32 → St → Option (Int32 × St)}(hM : mX11_spreadReach_40 &&& M = mX11_spreadReach_40)  (hK4 : ∀ a0 a1 a2 a3 a4, zFr M z0 a4 → zPw M z0 (K4 a0 a1 a2 a3 a4)) : ∀ (n : Nat) (y0 : Nat) (y1 : Nat) (y2 : Int32) (y3 : Int32) (y4 : Nat) (y5 : Int32) (y6 : Int32) (z : St), zFr M z0 z → zPw M z0 (fX11_spreadReach_40 N K4 n y0 y1 y2 y3 y4 y5 y6 z) := by
  intro n
  induction n with
  | zero => intro y0 y1 y2 y3 y4 y5 y6 z h; exact zw_n
  | succ n ih => intro y0 y1 y2 y3 y4 y5 y6 z h; exact wX11_spreadReach_40b (ztr rfl hM) hK4 (fun _ _ _ _ _ _ _ _ h => ih _ _ _ _ _ _ _ _ h) h
def mX11_spreadReach_4b : Nat := 0x40000000000000000000000000000000000000000000000000000000000000000000000000000000000000000000000000000000000000000000000000000000000000000000000000000000000000000000000000000000000000000000000000000000000000000000000000000000000000000000000000000000000000000000000000000000000000000000000000000000000000000000000000000000000000000000
theorem wX11_spreadReach_4b {M : Nat} {N : Nat} {K4 : Nat → Nat → Int32 → Int32 → St → Option (Int32 × St)} {x0 : Nat} {x1 : Nat} {x2 : Int32} {x3 : Int32} {z0 z : St} (hM : mX11_spreadReach_4b &&& M = mX11_spreadReach_4b)  (hK4 : ∀ a0 a1 a2 a3 a4, zFr M z0 a4 → zPw M z0 (K4 a0 a1 a2 a3 a4)) (h : zFr M z0 z) : zPw M z0 (fX11_spreadReach_4b N K4 x0 x1 x2 x3 z) := by
  unfold fX11_spreadReach_4b
  exact zw_i (zw_q (zw_s h)) (zw_k (zw_l (fun y4 => zw_k (zw_d (fun a6 => zw_l (fun v7 => wX11_spreadReach_40 (ztr rfl hM) hK4 _ _ _ _ _ _ _ _ _ h))))))
def mX11_spreadReach_4 : Nat := 0x40000000000000000000000000000000000000000000000000000000000000000000000000000000000000000000000000000000000000000000000000000000000000000000000000000000000000000000000000000000000000000000000000000000000000000000000000000000000000000000000000000000000000000000000000000000000000000000000000000000000000000000000000000000000000000000
theorem wX11_spreadReach_4 {M : Nat} {z0 : St} {N : Nat}(hM : mX11_spreadReach_4 &&& M = mX11_spreadReach_4)  : ∀ (n : Nat) (y0 : Nat) (y1 : Nat) (y2 : Int32) (y3 : Int32) (z : St), zFr M z0 z → zPw M z0 (fX11_spreadReach_4 N n y0 y1 y2 y3 z) := by
  intro n
  induction n with
  | zero => intro y0 y1 y2 y3 z h; exact zw_n
  | succ n ih => intro y0 y1 y2 y3 z h; exact wX11_spreadReach_4b (ztr rfl hM)  (fun _ _ _ _ _ h => ih _ _ _ _ _ h) h
def mX11_spreadReach : Nat := 0x40000000000000000000000000000000000000000000000000000000000000000000000000000000000000000000000000000000000000000000000000000000000000000000000000000000000000000000000000000000000000000000000000000000000000000000000000000000000000000000000000000000000000000000000000000000000000000000000000000000000000000000000000000000000000000000
theorem wX11_spreadReach {M : Nat} {N : Nat} {x0 : Nat} {x1 : Nat} {z0 z : St} (hM : mX11_spreadReach &&& M = mX11_spreadReach)  (h : zFr M z0 z) : zPw M z0 (fX11_spreadReach N x0 x1 z) := by
  unfold fX11_spreadReach
  exact wX11_spreadReach_4 (ztr rfl hM)  _ _ _ _ _ _ h
def mX11_costFromAbove_126 : Nat := 0x0
theorem wX11_costFromAbove_126 {M : Nat} {N : Nat} {K69 : Nat → Nat → Int32 → Int32 → St → Option (Int32 × St)} {K87 : Nat → Nat → Int32 → Int32 → Int32 → St → Option (Int32 × St)} {x0 : Nat} {x2 : Nat} {x4 : Int32} {x5 : Int32} {x6 : Int32} {z0 z : St} (hM : mX11_costFromAbove_126 &&& M = mX11_costFromAbove_126)  (hK69 : ∀ a0 a1 a2 a3 a4, zFr M z0 a4 → zPw M z0 (K69 a0 a1 a2 a3 a4)) (hK87 : ∀ a0 a1 a2 a3 a4 a5, zFr M z0 a5 → zPw M z0 (K87 a0 a1 a2 a3 a4 a5)) (h : zFr M z0 z) : zPw M z0 (fX11_costFromAbove_126 N K69 K87 x0 x2 x4 x5 x6 z) := by
  unfold fX11_costFromAbove_126
  exact zw_l (fun v1 => hK87 _ _ _ _ _ _ h)
def mX11_costFromAbove_87b : Nat := 0x40000000000000000000000000000000000000000000000000000000000000000000000000000000000000000000000000000000000000000000000000000000000000000000000000000000000000000000000000000000000000000000000000000000000000000000000000000000000000000000000000000000000000000000000000000000000000000000000000000000000000000000000000000000000000000000
theorem wX11_costFromAbove_87b {M : Nat} {N : Nat} {K69 : Nat → Nat → Int32 → Int32 → St → Option (Int32 × St)} {K87 : Nat → Nat → Int32 → Int32 → Int32 → St → Option (Int32 × St)} {x0 : Nat} {x2 : Nat} {x4 : Int32} {x5 : Int32} {x6 : Int32} {z0 z : St} (hM : mX11_costFromAbove_87b &&& M = mX11_costFromAbove_87b)  (hK69 : ∀ a0 a1 a2 a3 a4, zFr M z0 a4 → zPw M z0 (K69 a0 a1 a2 a3 a4)) (hK87 : ∀ a0 a1 a2 a3 a4 a5, zFr M z0 a5 → zPw M z0 (K87 a0 a1 a2 a3 a4 a5)) (h : zFr M z0 z) : zPw M z0 (fX11_costFromAbove_87b N K69 K87 x0 x2 x4 x5 x6 z) := by
  unfold fX11_costFromAbove_87b
  exact zw_i (zw_l (fun v2 => hK69 _ _ _ _ _ h)) (zw_k (zw_i (wX11_costFromAbove_126 (ztr rfl hM) hK69 hK87 h) (zw_k (zw_l (fun y6 => zw_d (fun a7 => zw_c (wX11_spreadReach (ztr rfl hM)  h) (fun r8 z9 h1 => zw_i (wX11_costFromAbove_126 (ztr rfl hM) hK69 hK87 h1) (wX11_costFromAbove_126 (ztr rfl hM) hK69 hK87 h1))))))))
def mX11_costFromAbove_87 : Nat := 0x40000000000000000000000000000000000000000000000000000000000000000000000000000000000000000000000000000000000000000000000000000000000000000000000000000000000000000000000000000000000000000000000000000000000000000000000000000000000000000000000000000000000000000000000000000000000000000000000000000000000000000000000000000000000000000000
theorem wX11_costFromAbove_87 {M : Nat} {z0 : St} {N : Nat} {K69 : Nat → Nat → Int32 → Int32 → St → Option (Int32 × St)}(hM : mX11_costFromAbove_87 &&& M = mX11_costFromAbove_87)  (hK69 : ∀ a0 a1 a2 a3 a4, zFr M z0 a4 → zPw M z0 (K69 a0 a1 a2 a3 a4)) : ∀ (n : Nat) (y0 : Nat) (y1 : Nat) (y2 : Int32) (y3 : Int32) (y4 : Int32) (z : St), zFr M z0 z → zPw M z0 (fX11_costFromAbove_87 N K69 n y0 y1 y2 y3 y4 z) := by
  intro n
  induction n with
  | zero => intro y0 y1 y2 y3 y4 z h; exact zw_n
  | succ n ih => intro y0 y1 y2 y3 y4 z h; exact wX11_costFromAbove_87b (ztr rfl hM) hK69 (fun _ _ _ _ _ _ h => ih _ _ _ _ _ _ h) h
def mX11_costFromAbove_209 : Nat := 0x0
theorem wX11_costFromAbove_209 {M : Nat} {N : Nat} {K146 : Nat → Nat → Int32 → Int32 → St → Option (Int32 × St)} {x0 : Nat} {x2 : Nat} {x5 : Int32} {x6 : Int32} {z0 z : St} (hM : mX11_costFromAbove_209 &&& M = mX11_costFromAbove_209)  (hK146 : ∀ a0 a1 a2 a3 a4, zFr M z0 a4 → zPw M z0 (K146 a0 a1 a2 a3 a4)) (h : zFr M z0 z) : zPw M z0 (fX11_costFromAbove_209 N K146 x0 x2 x5 x6 z) := by
  unfold fX11_costFromAbove_209
  exact zw_l (fun v1 => hK146 _ _ _ _ _ h)
def mX11_costFromAbove_146b : Nat := 0x0
theorem wX11_costFromAbove_146b {M : Nat} {N : Nat} {K146 : Nat → Nat → Int32 → Int32 → St → Option (Int32 × St)} {x0 : Nat} {x2 : Nat} {x5 : Int32} {x6 : Int32} {z0 z : St} (hM : mX11_costFromAbove_146b &&& M = mX11_costFromAbove_146b)  (hK146 : ∀ a0 a1 a2 a3 a4, zFr M z0 a4 → zPw M z0 (K146 a0 a1 a2 a3 a4)) (h : zFr M z0 z) : zPw M z0 (fX11_costFromAbove_146b N K146 x0 x2 x5 x6 z) := by
  unfold fX11_costFromAbove_146b
  exact zw_i (zw_i (zw_s h) (zw_s h)) (zw_k (zw_l (fun y4 => zw_d (fun a5 => zw_l (fun y6 => zw_d (fun a7 => zw_k (zw_i (wX11_costFromAbove_209 (ztr rfl hM) hK146 h) (zw_l (fun y10 => zw_d (fun a11 => zw_k (zw_l (fun v13 => wX11_costFromAbove_209 (ztr rfl hM) hK146 h))))))))))))
def mX11_costFromAbove_146 : Nat := 0x0
theorem wX11_costFromAbove_146 {M : Nat} {z0 : St} {N : Nat}(hM : mX11_costFromAbove_146 &&& M = mX11_costFromAbove_146)  : ∀ (n : Nat) (y0 : Nat) (y1 : Nat) (y2 : Int32) (y3 : Int32) (z : St), zFr M z0 z → zPw M z0 (fX11_costFromAbove_146 N n y0 y1 y2 y3 z) := by
  intro n
  induction n with
  | zero => intro y0 y1 y2 y3 z h; exact zw_n
  | succ n ih => intro y0 y1 y2 y3 z h; exact wX11_costFromAbove_146b (ztr rfl hM)  (fun _ _ _ _ _ h => ih _ _ _ _ _ h) h
def mX11_costFromAbove_138 : Nat := 0x0
theorem wX11_costFromAbove_138 {M : Nat} {N : Nat} {x0 : Nat} {x2 : Nat} {z0 z : St} (hM : mX11_costFromAbove_138 &&& M = mX11_costFromAbove_138)  (h : zFr M z0 z) : zPw M z0 (fX11_costFromAbove_138 N x0 x2 z) := by
  unfold fX11_costFromAbove_138
  exact wX11_costFromAbove_146 (ztr rfl hM)  _ _ _ _ _ _ h
def mX11_costFromAbove_69b : Nat := 0x40000000000000000000000000000000000000000000000000000000000000000000000000000000000000000000000000000000000000000000000000000000000000000000000000000000000000000000000000000000000000000000000000000000000000000000000000000000000000000000000000000000000000000000000000000000000000000000000000000000000000000000000000000000000000000000
theorem wX11_costFromAbove_69b {M : Nat} {N : Nat} {K69 : Nat → Nat → Int32 → Int32 → St → Option (Int32 × St)} {x0 : Nat} {x2 : Nat} {x4 : Int32} {x5 : Int32} {z0 z : St} (hM : mX11_costFromAbove_69b &&& M = mX11_costFromAbove_69b)  (hK69 : ∀ a0 a1 a2 a3 a4, zFr M z0 a4 → zPw M z0 (K69 a0 a1 a2 a3 a4)) (h : zFr M z0 z) : zPw M z0 (fX11_costFromAbove_69b N K69 x0 x2 x4 x5 z) := by
  unfold fX11_costFromAbove_69b
  exact zw_i (wX11_costFromAbove_138 (ztr rfl hM)  h) (zw_i (wX11_costFromAbove_138 (ztr rfl hM)  h) (wX11_costFromAbove_87 (ztr rfl hM) hK69 _ _ _ _ _ _ _ h))
def mX11_costFromAbove_69 : Nat := 0x40000000000000000000000000000000000000000000000000000000000000000000000000000000000000000000000000000000000000000000000000000000000000000000000000000000000000000000000000000000000000000000000000000000000000000000000000000000000000000000000000000000000000000000000000000000000000000000000000000000000000000000000000000000000000000000
theorem wX11_costFromAbove_69 {M : Nat} {z0 : St} {N : Nat}(hM : mX11_costFromAbove_69 &&& M = mX11_costFromAbove_69)  : ∀ (n : Nat) (y0 : Nat) (y1 : Nat) (y2 : Int32) (y3 : Int32) (z : St), zFr M z0 z → zPw M z0 (fX11_costFromAbove_69 N n y0 y1 y2 y3 z) := by
  intro n
  induction n with
  | zero => intro y0 y1 y2 y3 z h; exact zw_n
  | succ n ih => intro y0 y1 y2 y3 z h; exact wX11_costFromAbove_69b (ztr rfl hM)  (fun _ _ _ _ _ h => ih _ _ _ _ _ h) h
def mX11_costFromAbove_30b : Nat := 0x40000000000000000000000000000000000000000000000000000000000000000000000000000000000000000000000000000000000000000000000000000000000000000000000000000000000000000000000000000000000000000000000000000000000000000000000000000000000000000000000000000000000000000000000000000000000000000000000000000000000000000000000000000000000000000000
theorem wX11_costFromAbove_30b {M : Nat} {N : Nat} {K30 : Nat → Nat → Nat → Int32 → St → Option (Int32 × St)} {x0 : Nat} {x1 : Nat} {x2 : Nat} {x4 : Int32} {z0 z : St} (hM : mX11_costFromAbove_30b &&& M = mX11_costFromAbove_30b)  (hK30 : ∀ a0 a1 a2 a3 a4, zFr M z0 a4 → zPw M z0 (K30 a0 a1 a2 a3 a4)) (h : zFr M z0 z) : zPw M z0 (fX11_costFromAbove_30b N K30 x0 x1 x2 x4 z) := by
  unfold fX11_costFromAbove_30b
  exact zw_i (zw_k (zw_lA h (ztb hM rfl) (fun z3 h1 => wX11_costFromAbove_69 (ztr rfl hM)  _ _ _ _ _ _ h1))) (zw_k (zw_lA h (ztb hM rfl) (fun z5 h2 => zw_l (fun v6 => hK30 _ _ _ _ _ h2))))
def mX11_costFromAbove_30 : Nat := 0x40000000000000000000000000000000000000000000000000000000000000000000000000000000000000000000000000000000000000000000000000000000000000000000000000000000000000000000000000000000000000000000000000000000000000000000000000000000000000000000000000000000000000000000000000000000000000000000000000000000000000000000000000000000000000000000
theorem wX11_costFromAbove_30 {M : Nat} {z0 : St} {N : Nat}(hM : mX11_costFromAbove_30 &&& M = mX11_costFromAbove_30)  : ∀ (n : Nat) (y0 : Nat) (y1 : Nat) (y2 : Nat) (y3 : Int32) (z : St), zFr M z0 z → zPw M z0 (fX11_costFromAbove_30 N n y0 y1 y2 y3 z) := by
  intro n
  induction n with
  | zero => intro y0 y1 y2 y3 z h; exact zw_n
  | succ n ih => intro y0 y1 y2 y3 z h; exact wX11_costFromAbove_30b (ztr rfl hM)  (fun _ _ _ _ _ h => ih _ _ _ _ _ h) h
def mX11_costFromAbove : Nat := 0x40000000000000000000000000000000000000000000000000000000000000000000000000000000000000000000000000000000000000000000000000000000000000000000000000000000000000000000000000000000000000000000000000000000000000000000000000000000000000000000000000000000000000000000000000000000000000000000000000000000000000000000000000000000000000000000
theorem wX11_costFromAbove {M : Nat} {N : Nat} {x0 : Nat} {x1 : Nat} {x2 : Nat} {z0 z : St} (hM : mX11_costFromAbove &&& M = mX11_costFromAbove)  (h : zFr M z0 z) : zPw M z0 (fX11_costFromAbove N x0 x1 x2 z) := by
  unfold fX11_costFromAbove
  exact zw_i (zw_c (wX1_portOn (ztr rfl hM)  h) (fun r2 z3 h1 => zw_o (wX11_costFromAbove_30 (ztr rfl hM)  _ _ _ _ _ _ h1) (fun a7 => zw_s h1))) (zw_s h)
def mX11_wrongWays_41 : Nat := 0x0
theorem wX11_wrongWays_41 {M : Nat} {N : Nat} {K4 : Nat → Nat → Int32 → Int32 → St → Option (Int32 × St)} {x0 : Nat} {x1 : Nat} {x2 : Int32} {x3 : Int32} {z0 z : St} (hM : mX11_wrongWays_41 &&& M = mX11_wrongWays_41)  (hK4 : ∀ a0 a1 a2 a3 a4, zFr M z0 a4 → zPw M z0 (K4 a0 a1 a2 a3 a4)) (h : zFr M z0 z) : zPw M z0 (fX11_wrongWays_41 N K4 x0 x1 x2 x3 z) := by
  unfold fX11_wrongWays_41
  exact zw_l (fun v1 => hK4 _ _ _ _ _ h)
def mX11_wrongWays_4b : Nat := 0x40000000000000000000000000000000000000000000000000000000000000000000000000000000000000000000000000000000000000000000000000000000000000000000000000000000000000000000000000000000000000000000000000000000000000000000000000000000000000000000000000000000000000000000000000000000000000000000000000000000000000000000000000000000000000000000
theorem wX11_wrongWays_4b {M : Nat} {N : Nat} {K4 : Nat → Nat → Int32 → Int32 → St → Option (Int32 × St)} {x0 : Nat} {x1 : Nat} {x2 : Int32} {x3 : Int32} {z0 z : St} (hM : mX11_wrongWays_4b &&& M = mX11_wrongWays_4b)  (hK4 : ∀ a0 a1 a2 a3 a4, zFr M z0 a4 → zPw M z0 (K4 a0 a1 a2 a3 a4)) (h : zFr M z0 z) : zPw M z0 (fX11_wrongWays_4b N K4 x0 x1 x2 x3 z) := by
  unfold fX11_wrongWays_4b
  exact zw_i (zw_s h) (zw_l (fun y2 => zw_d (fun a3 => zw_l (fun y4 => zw_d (fun a5 => zw_k (zw_k (zw_l (fun y8 => zw_d (fun a9 => zw_c (wX11_costFromAbove (ztr rfl hM)  h) (fun r10 z11 h1 => zw_i (wX11_wrongWays_41 (ztr rfl hM) hK4 h1) (zw_l (fun v15 => wX11_wrongWays_41 (ztr rfl hM) hK4 h1))))))))))))
def mX11_wrongWays_4 : Nat := 0x40000000000000000000000000000000000000000000000000000000000000000000000000000000000000000000000000000000000000000000000000000000000000000000000000000000000000000000000000000000000000000000000000000000000000000000000000000000000000000000000000000000000000000000000000000000000000000000000000000000000000000000000000000000000000000000
theorem wX11_wrongWays_4 {M : Nat} {z0 : St} {N : Nat}(hM : mX11_wrongWays_4 &&& M = mX11_wrongWays_4)  : ∀ (n : Nat) (y0 : Nat) (y1 : Nat) (y2 : Int32) (y3 : Int32) (z : St), zFr M z0 z → zPw M z0 (fX11_wrongWays_4 N n y0 y1 y2 y3 z) := by
  intro n
  induction n with
  | zero => intro y0 y1 y2 y3 z h; exact zw_n
  | succ n ih => intro y0 y1 y2 y3 z h; exact wX11_wrongWays_4b (ztr rfl hM)  (fun _ _ _ _ _ h => ih _ _ _ _ _ h) h
def mX11_wrongWays : Nat := 0x40000000000000000000000000000000000000000000000000000000000000000000000000000000000000000000000000000000000000000000000000000000000000000000000000000000000000000000000000000000000000000000000000000000000000000000000000000000000000000000000000000000000000000000000000000000000000000000000000000000000000000000000000000000000000000000
theorem wX11_wrongWays {M : Nat} {N : Nat} {x0 : Nat} {x1 : Nat} {z0 z : St} (hM : mX11_wrongWays &&& M = mX11_wrongWays)  (h : zFr M z0 z) : zPw M z0 (fX11_wrongWays N x0 x1 z) := by
  unfold fX11_wrongWays
  exact wX11_wrongWays_4 (ztr rfl hM)  _ _ _ _ _ _ h
def mX11_overdue_63 : Nat := 0x0
theorem wX11_overdue_63 {M : Nat} {N : Nat} {K22 : Nat → Int32 → Int32 → St → Option (Int32 × St)} {x0 : Nat} {x1 : Int32} {x2 : Int32} {z0 z : St} (hM : mX11_overdue_63 &&& M = mX11_overdue_63)  (hK22 : ∀ a0 a1 a2 a3, zFr M z0 a3 → zPw M z0 (K22 a0 a1 a2 a3)) (h : zFr M z0 z) : zPw M z0 (fX11_overdue_63 N K22 x0 x1 x2 z) := by
  unfold fX11_overdue_63
  exact zw_l (fun v1 => hK22 _ _ _ _ h)
def mX11_overdue_22b : Nat := 0x40000000000000000000000000000000000000000000000000000000000000000000000000000000000000000000000000000000000000000000000000000000000000000000000000000000000000000000000000000000000000000000000000000000000000000000000000000000000000000000000000000000000000000000000000000000000000000000000000000000000000000000000000000000000000000000
theorem wX11_overdue_22b {M : Nat} {N : Nat} {K22 : Nat → Int32 → Int32 → St → Option (Int32 × St)} {x0 : Nat} {x1 : Int32} {x2 : Int32} {z0 z : St} (hM : mX11_overdue_22b &&& M = mX11_overdue_22b)  (hK22 : ∀ a0 a1 a2 a3, zFr M z0 a3 → zPw M z0 (K22 a0 a1 a2 a3)) (h : zFr M z0 z) : zPw M z0 (fX11_overdue_22b N K22 x0 x1 x2 z) := by
  unfold fX11_overdue_22b
  exact zw_i (zw_s h) (zw_k (zw_l (fun y3 => zw_d (fun a4 => zw_i (zw_c (wX11_stuckEnds (ztr rfl hM)  h) (fun r6 z7 h1 => zw_l (fun v10 => wX11_overdue_63 (ztr rfl hM) hK22 h1))) (zw_c (wX11_wrongWays (ztr rfl hM)  h) (fun r11 z12 h2 => zw_l (fun v15 => wX11_overdue_63 (ztr rfl hM) hK22 h2)))))))
def mX11_overdue_22 : Nat := 0x40000000000000000000000000000000000000000000000000000000000000000000000000000000000000000000000000000000000000000000000000000000000000000000000000000000000000000000000000000000000000000000000000000000000000000000000000000000000000000000000000000000000000000000000000000000000000000000000000000000000000000000000000000000000000000000
theorem wX11_overdue_22 {M : Nat} {z0 : St} {N : Nat}(hM : mX11_overdue_22 &&& M = mX11_overdue_22)  : ∀ (n : Nat) (y0 : Nat) (y1 : Int32) (y2 : Int32) (z : St), zFr M z0 z → zPw M z0 (fX11_overdue_22 N n y0 y1 y2 z) := by
  intro n
  induction n with
  | zero => intro y0 y1 y2 z h; exact zw_n
  | succ n ih => intro y0 y1 y2 z h; exact wX11_overdue_22b (ztr rfl hM)  (fun _ _ _ _ h => ih _ _ _ _ h) h
def mX11_overdue : Nat := 0x40000000000000000000000000000000000000000000000000000000000000000000000000000000000000000000000000000000000000000000000000000000000000000000000000000000000000000000000000000000000000000000000000000000000000000000000000000000000000000000000000000000000000000000000000000000000000000000000000000000000000000000000000000000000000000000
theorem wX11_overdue {M : Nat} {N : Nat} {x0 : Nat} {z0 z : St} (hM : mX11_overdue &&& M = mX11_overdue)  (h : zFr M z0 z) : zPw M z0 (fX11_overdue N x0 z) := by
  unfold fX11_overdue
  exact zw_c (wX11_calmBound (ztr rfl hM)  h) (fun r1 z2 h1 => zw_i (wX11_overdue_22 (ztr rfl hM)  _ _ _ _ _ h1) (zw_s h1))
def mX11_boxOf : Nat := 0x0
theorem wX11_boxOf {M : Nat} {N : Nat} {x0 : Nat} {x1 : Int32} {z0 z : St} (hM : mX11_boxOf &&& M = mX11_boxOf)  (h : zFr M z0 z) : zPw M z0 (fX11_boxOf N x0 x1 z) := by
  unfold fX11_boxOf
  exact zw_i (zw_s h) (zw_i (zw_s h) (zw_k (zw_l (fun y4 => zw_s h))))
def mX11_hostOf_17 : Nat := 0x0
theorem wX11_hostOf_17 {M : Nat} {N : Nat} {z0 z : St} (hM : mX11_hostOf_17 &&& M = mX11_hostOf_17)  (h : zFr M z0 z) : zPw M z0 (fX11_hostOf_17 N z) := by
  unfold fX11_hostOf_17
  exact zw_s h
def mX11_hostOf : Nat := 0x0
theorem wX11_hostOf {M : Nat} {N : Nat} {x0 : Nat} {x1 : Int32} {z0 z : St} (hM : mX11_hostOf &&& M = mX11_hostOf)  (h : zFr M z0 z) : zPw M z0 (fX11_hostOf N x0 x1 z) := by
  unfold fX11_hostOf
  exact zw_c (wX11_boxOf (ztr rfl hM)  h) (fun r1 z2 h1 => zw_o (wX11_hostOf_17 (ztr rfl hM)  h1) (fun a6 => zw_i (zw_s h1) (wX11_hostOf_17 (ztr rfl hM)  h1)))
def mX11_routerOf_17 : Nat := 0x0
theorem wX11_routerOf_17 {M : Nat} {N : Nat} {z0 z : St} (hM : mX11_routerOf_17 &&& M = mX11_routerOf_17)  (h : zFr M z0 z) : zPw M z0 (fX11_routerOf_17 N z) := by
  unfold fX11_routerOf_17
  exact zw_s h
def mX11_routerOf : Nat := 0x0
theorem wX11_routerOf {M : Nat} {N : Nat} {x0 : Nat} {x1 : Int32} {z0 z : St} (hM : mX11_routerOf &&& M = mX11_routerOf)  (h : zFr M z0 z) : zPw M z0 (fX11_routerOf N x0 x1 z) := by
  unfold fX11_routerOf
  exact zw_c (wX11_boxOf (ztr rfl hM)  h) (fun r1 z2 h1 => zw_o (wX11_routerOf_17 (ztr rfl hM)  h1) (fun a6 => zw_i (zw_s h1) (wX11_routerOf_17 (ztr rfl hM)  h1)))
def mX11_netOf : Nat := 0x0
theorem wX11_netOf {M : Nat} {N : Nat} {x0 : Nat} {x1 : Int32} {z0 z : St} (hM : mX11_netOf &&& M = mX11_netOf)  (h : zFr M z0 z) : zPw M z0 (fX11_netOf N x0 x1 z) := by
  unfold fX11_netOf
  exact zw_i (zw_s h) (zw_i (zw_s h) (zw_k (zw_l (fun y4 => zw_s h))))
def mX11_doorOf_20 : Nat := 0x0
theorem wX11_doorOf_20 {M : Nat} {N : Nat} {z0 z : St} (hM : mX11_doorOf_20 &&& M = mX11_doorOf_20)  (h : zFr M z0 z) : zPw M z0 (fX11_doorOf_20 N z) := by
  unfold fX11_doorOf_20
  exact zw_s h
def mX11_doorOf : Nat := 0x0
theorem wX11_doorOf {M : Nat} {N : Nat} {x0 : Nat} {x1 : Int32} {x2 : Int32} {z0 z : St} (hM : mX11_doorOf &&& M = mX11_doorOf)  (h : zFr M z0 z) : zPw M z0 (fX11_doorOf N x0 x1 x2 z) := by
  unfold fX11_doorOf
  exact zw_c (wX11_hostOf (ztr rfl hM)  h) (fun r1 z2 h1 => zw_o (wX11_doorOf_20 (ztr rfl hM)  h1) (fun a6 => zw_i (wX11_doorOf_20 (ztr rfl hM)  h1) (zw_i (zw_k (zw_l (fun y10 => zw_s h1))) (wX11_doorOf_20 (ztr rfl hM)  h1))))
def mX11_keyOf : Nat := 0x0
theorem wX11_keyOf {M : Nat} {N : Nat} {x0 : Nat} {x1 : Int32} {z0 z : St} (hM : mX11_keyOf &&& M = mX11_keyOf)  (h : zFr M z0 z) : zPw M z0 (fX11_keyOf N x0 x1 z) := by
  unfold fX11_keyOf
  exact zw_s h
def mX11_firstNumber : Nat := 0x0
theorem wX11_firstNumber {M : Nat} {N : Nat} {x0 : Nat} {x1 : Nat} {z0 z : St} (hM : mX11_firstNumber &&& M = mX11_firstNumber)  (h : zFr M z0 z) : zPw M z0 (fX11_firstNumber N x0 x1 z) := by
  unfold fX11_firstNumber
  exact zw_s h
def mX11_stir : Nat := 0x2000000000000000000000000000000000000000000000000000000000000000000000000000000000000000000000000000000000000000000000000000000000000000000000000000000000000000000000000000000000
theorem wX11_stir {M : Nat} {N : Nat} {x0 : Nat} {z0 z : St} (hM : mX11_stir &&& M = mX11_stir)  (h : zFr M z0 z) : zPw M z0 (fX11_stir N x0 z) := by
  unfold fX11_stir
  exact zw_lI h (ztb hM rfl) (fun z1 h1 => zw_s h1)
def mX11_changeWorld : Nat := 0x6000000000000000000000000000000000000000000000000000000000000000000000000000000000000000000000000000000000000000000000000000000000000000000000000000000000000000000000000000000000
theorem wX11_changeWorld {M : Nat} {N : Nat} {x0 : Nat} {z0 z : St} (hM : mX11_changeWorld &&& M = mX11_changeWorld)  (h : zFr M z0 z) : zPw M z0 (fX11_changeWorld N x0 z) := by
  unfold fX11_changeWorld
  exact zw_lI h (ztb hM rfl) (fun z1 h1 => zw_c (wX11_stir (ztr rfl hM)  h1) (fun _ z3 h2 => zw_s h2))
def mX11_giveBack : Nat := 0x80000000000000000000000000000000000000000000000000000000000000040000000000000000000000000000000000000000000000000000000000000000000000000000000000000000000000000000000000000000000
theorem wX11_giveBack {M : Nat} {N : Nat} {x0 : Nat} {x1 : Nat} {z0 z : St} (hM : mX11_giveBack &&& M = mX11_giveBack)  (h : zFr M z0 z) : zPw M z0 (fX11_giveBack N x0 x1 z) := by
  unfold fX11_giveBack
  exact zw_l (fun y1 => zw_lR h (ztb hM rfl) (fun z2 h1 => zw_lR h1 (ztb hM rfl) (fun z3 h2 => zw_s h2)))
def mX11_hangIn_31 : Nat := 0x4000000000000000000000000000000000000000000000000000000000000000000000000000000000000000000000000000000000000000000000000000000000000000000000000000000000000000000000000000000000000000000000000000000000000000000000000000000000000000000000000000000000000000000000000000000000000000000000000000000000000000000000000000000000000000000
theorem wX11_hangIn_31 {M : Nat} {N : Nat} {x0 : Nat} {x1 : Nat} {x2 : Int32} {z0 z : St} (hM : mX11_hangIn_31 &&& M = mX11_hangIn_31)  (h : zFr M z0 z) : zPw M z0 (fX11_hangIn_31 N x0 x1 x2 z) := by
  unfold fX11_hangIn_31
  exact zw_k (zw_lQ h (ztb hM rfl) (fun z2 h1 => zw_s h1))
def mX11_hangIn : Nat := 0x6000000000000000000000000000000000000000000000000000000000000000000000000000000000000000000000000000000000000000000000000000000000000000000000000000000000000000000000000000000000000000000000000000000000000000000000040000000000000000000000000000000000000000000000000000000000000000000000000000000000000000000000000000000000000000000
theorem wX11_hangIn {M : Nat} {N : Nat} {x0 : Nat} {x1 : Nat} {x2 : Int32} {z0 z : St} (hM : mX11_hangIn &&& M = mX11_hangIn)  (h : zFr M z0 z) : zPw M z0 (fX11_hangIn N x0 x1 x2 z) := by
  unfold fX11_hangIn
  exact zw_lR h (ztb hM rfl) (fun z1 h1 => zw_k (zw_l (fun y3 => zw_o (zw_k (zw_lQ h1 (ztb hM rfl) (fun z7 h2 => wX11_hangIn_31 (ztr rfl hM)  h2))) (fun a5 => zw_lR h1 (ztb hM rfl) (fun z8 h3 => wX11_hangIn_31 (ztr rfl hM)  h3)))))
def mX11_loseAllOn_83 : Nat := 0x0
theorem wX11_loseAllOn_83 {M : Nat} {N : Nat} {K2 : Nat → Int32 → Int32 → St → Option (Int32 × St)} {K33 : Nat → Int32 → Int32 → Option Nat → Int32 → St → Option (Int32 × St)} {x0 : Nat} {x1 : Int32} {x2 : Int32} {x4 : Int32} {x5 : Option Nat} {z0 z : St} (hM : mX11_loseAllOn_83 &&& M = mX11_loseAllOn_83)  (hK2 : ∀ a0 a1 a2 a3, zFr M z0 a3 → zPw M z0 (K2 a0 a1 a2 a3)) (hK33 : ∀ a0 a1 a2 a3 a4 a5, zFr M z0 a5 → zPw M z0 (K33 a0 a1 a2 a3 a4 a5)) (h : zFr M z0 z) : zPw M z0 (fX11_loseAllOn_83 N K2 K33 x0 x1 x2 x4 x5 z) := by
  unfold fX11_loseAllOn_83
  exact zw_l (fun v1 => hK33 _ _ _ _ _ _ h)
def mX11_loseAllOn_92 : Nat := 0x0
theorem wX11_loseAllOn_92 {M : Nat} {N : Nat} {K2 : Nat → Int32 → Int32 → St → Option (Int32 × St)} {x0 : Nat} {x1 : Int32} {x2 : Int32} {z0 z : St} (hM : mX11_loseAllOn_92 &&& M = mX11_loseAllOn_92)  (hK2 : ∀ a0 a1 a2 a3, zFr M z0 a3 → zPw M z0 (K2 a0 a1 a2 a3)) (h : zFr M z0 z) : zPw M z0 (fX11_loseAllOn_92 N K2 x0 x1 x2 z) := by
  unfold fX11_loseAllOn_92
  exact zw_l (fun v1 => hK2 _ _ _ _ h)
def mX11_loseAllOn_33b : Nat := 0x6000000000000000000000000000000000000000000000000000000000000000000000000000000000000000000000000000000000000000000000000000000000000000000000000000000180000000000000000000000000000000000000000000000000000000000000040000000000000000000000000000000000000000000000000000000000000000000000000000000000000000000000000000000000000000000
theorem wX11_loseAllOn_33b {M : Nat} {N : Nat} {K2 : Nat → Int32 → Int32 → St → Option (Int32 × St)} {K33 : Nat → Int32 → Int32 → Option Nat → Int32 → St → Option (Int32 × St)} {x0 : Nat} {x1 : Int32} {x2 : Int32} {x3 : Option Nat} {x4 : Int32} {z0 z : St} (hM : mX11_loseAllOn_33b &&& M = mX11_loseAllOn_33b)  (hK2 : ∀ a0 a1 a2 a3, zFr M z0 a3 → zPw M z0 (K2 a0 a1 a2 a3)) (hK33 : ∀ a0 a1 a2 a3 a4 a5, zFr M z0 a5 → zPw M z0 (K33 a0 a1 a2 a3 a4 a5)) (h : zFr M z0 z) : zPw M z0 (fX11_loseAllOn_33b N K2 K33 x0 x1 x2 x3 x4 z) := by
  unfold fX11_loseAllOn_33b
  exact zw_i (wX11_loseAllOn_92 (ztr rfl hM) hK2 h) (zw_o (wX11_loseAllOn_92 (ztr rfl hM) hK2 h) (fun a3 => zw_l (fun y4 => zw_i (zw_c (wX11_hangIn (ztr rfl hM)  h) (fun _ z7 h1 => wX11_loseAllOn_83 (ztr rfl hM) hK2 hK33 h1)) (zw_lI h (ztb hM rfl) (fun z10 h2 => zw_c (wX11_giveBack (ztr rfl hM)  h2) (fun _ z12 h3 => wX11_loseAllOn_83 (ztr rfl hM) hK2 hK33 h3))))))
def mX11_loseAllOn_33 : Nat := 0x6000000000000000000000000000000000000000000000000000000000000000000000000000000000000000000000000000000000000000000000000000000000000000000000000000000180000000000000000000000000000000000000000000000000000000000000040000000000000000000000000000000000000000000000000000000000000000000000000000000000000000000000000000000000000000000
theorem wX11_loseAllOn_33 {M : Nat} {z0 : St} {N : Nat} {K2 : Nat → Int32 → Int32 → St → Option (Int32 × St)}(hM : mX11_loseAllOn_33 &&& M = mX11_loseAllOn_33)  (hK2 : ∀ a0 a1 a2 a3, zFr M z0 a3 → zPw M z0 (K2 a0 a1 a2 a3)) : ∀ (n : Nat) (y0 : Nat) (y1 : Int32) (y2 : Int32) (y3 : Option Nat) (y4 : Int32) (z : St), zFr M z0 z → zPw M z0 (fX11_loseAllOn_33 N K2 n y0 y1 y2 y3 y4 z) := by
  intro n
  induction n with
  | zero => intro y0 y1 y2 y3 y4 z h; exact zw_n
  | succ n ih => intro y0 y1 y2 y3 y4 z h; exact wX11_loseAllOn_33b (ztr rfl hM) hK2 (fun _ _ _ _ _ _ h => ih _ _ _ _ _ _ h) h
def mX11_loseAllOn_2b : Nat := 0x6000000000000000000000000000000000000000000000000000000000000000000000000000000000000000000000000000000000000000000000000000000000000000000000000000000180000000000000000000000000000000000000000000000000000000000000040000000000000000000000000000000000000000000000000000000000000000000000000000000000000000000000000000000000000000000
theorem wX11_loseAllOn_2b {M : Nat} {N : Nat} {K2 : Nat → Int32 → Int32 → St → Option (Int32 × St)} {x0 : Nat} {x1 : Int32} {x2 : Int32} {z0 z : St} (hM : mX11_loseAllOn_2b &&& M = mX11_loseAllOn_2b)  (hK2 : ∀ a0 a1 a2 a3, zFr M z0 a3 → zPw M z0 (K2 a0 a1 a2 a3)) (h : zFr M z0 z) : zPw M z0 (fX11_loseAllOn_2b N K2 x0 x1 x2 z) := by
  unfold fX11_loseAllOn_2b
  exact zw_i (zw_s h) (zw_k (zw_l (fun y3 => zw_k (zw_lQ h (ztb hM rfl) (fun z5 h1 => zw_k (zw_lQ h1 (ztb hM rfl) (fun z7 h2 => wX11_loseAllOn_33 (ztr rfl hM) hK2 _ _ _ _ _ _ _ h2)))))))
def mX11_loseAllOn_2 : Nat := 0x6000000000000000000000000000000000000000000000000000000000000000000000000000000000000000000000000000000000000000000000000000000000000000000000000000000180000000000000000000000000000000000000000000000000000000000000040000000000000000000000000000000000000000000000000000000000000000000000000000000000000000000000000000000000000000000
theorem wX11_loseAllOn_2 {M : Nat} {z0 : St} {N : Nat}(hM : mX11_loseAllOn_2 &&& M = mX11_loseAllOn_2)  : ∀ (n : Nat) (y0 : Nat) (y1 : Int32) (y2 : Int32) (z : St), zFr M z0 z → zPw M z0 (fX11_loseAllOn_2 N n y0 y1 y2 z) := by
  intro n
  induction n with
  | zero => intro y0 y1 y2 z h; exact zw_n
  | succ n ih => intro y0 y1 y2 z h; exact wX11_loseAllOn_2b (ztr rfl hM)  (fun _ _ _ _ h => ih _ _ _ _ h) h
def mX11_loseAllOn : Nat := 0x6000000000000000000000000000000000000000000000000000000000000000000000000000000000000000000000000000000000000000000000000000000000000000000000000000000180000000000000000000000000000000000000000000000000000000000000040000000000000000000000000000000000000000000000000000000000000000000000000000000000000000000000000000000000000000000
theorem wX11_loseAllOn {M : Nat} {N : Nat} {x0 : Nat} {x1 : Int32} {z0 z : St} (hM : mX11_loseAllOn &&& M = mX11_loseAllOn)  (h : zFr M z0 z) : zPw M z0 (fX11_loseAllOn N x0 x1 z) := by
  unfold fX11_loseAllOn
  exact wX11_loseAllOn_2 (ztr rfl hM)  _ _ _ _ _ h
def mX11_putFrame_106b : Nat := 0x600020000000000000000000000000000000000000000000000000000000000000000000000000000000000000000000000000000000000000000000000000000000000000000000000000018000000000000000000000000000000000000000000000000000000000000007eff0000000000000000000000000000000000000000000000000000000000000000000000000000000000000000000000000000000000000000
theorem wX11_putFrame_106b {M : Nat} {N : Nat} {K106 : Nat → Nat → Int32 → Nat → Int32 → Int32 → Nat → Int32 → Int32 → Int32 → St → Option (Int32 × St)} {x0 : Nat} {x1 : Nat} {x2 : Int32} {x3 : Nat} {x4 : Int32} {x5 : Int32} {x6 : Nat} {x8 : Int32} {x9 : Int32} {x10 : Int32} {z0 z : St} (hM : mX11_putFrame_106b &&& M = mX11_putFrame_106b)  (hK106 : ∀ a0 a1 a2 a3 a4 a5 a6 a7 a8 a9 a10, zFr M z0 a10 → zPw M z0 (K106 a0 a1 a2 a3 a4 a5 a6 a7 a8 a9 a10)) (h : zFr M z0 z) : zPw M z0 (fX11_putFrame_106b N K106 x0 x1 x2 x3 x4 x5 x6 x8 x9 x10 z) := by
  unfold fX11_putFrame_106b
  exact zw_i (zw_s h) (zw_l (fun y2 => zw_o (zw_s h) (fun a4 => zw_l (fun y5 => zw_d (fun a6 => zw_l (fun y7 => zw_lR h (ztb hM rfl) (fun z8 h1 => zw_c (wX7_copyPart (ztr rfl hM)  h1) (fun _ z10 h2 => zw_lI h2 (ztb hM rfl) (fun z13 h3 => zw_lI h3 (ztb hM rfl) (fun z14 h4 => zw_lI h4 (ztb hM rfl) (fun z15 h5 => zw_c (wX11_hangIn (ztr rfl hM)  h5) (fun _ z17 h6 => zw_lI h6 (ztb hM rfl) (fun z20 h7 => zw_l (fun v21 => zw_l (fun v22 => hK106 _ _ _ _ _ _ _ _ _ _ _ h7)))))))))))))))
def mX11_putFrame_106 : Nat := 0x600020000000000000000000000000000000000000000000000000000000000000000000000000000000000000000000000000000000000000000000000000000000000000000000000000018000000000000000000000000000000000000000000000000000000000000007eff0000000000000000000000000000000000000000000000000000000000000000000000000000000000000000000000000000000000000000
theorem wX11_putFrame_106 {M : Nat} {z0 : St} {N : Nat}(hM : mX11_putFrame_106 &&& M = mX11_putFrame_106)  : ∀ (n : Nat) (y0 : Nat) (y1 : Nat) (y2 : Int32) (y3 : Nat) (y4 : Int32) (y5 : Int32) (y6 : Nat) (y7 : Int32) (y8 : Int32) (y9 : Int32) (z : St), zFr M z0 z → zPw M z0 (fX11_putFrame_106 N n y0 y1 y2 y3 y4 y5 y6 y7 y8 y9 z) := by
  intro n
  induction n with
  | zero => intro y0 y1 y2 y3 y4 y5 y6 y7 y8 y9 z h; exact zw_n
  | succ n ih => intro y0 y1 y2 y3 y4 y5 y6 y7 y8 y9 z h; exact wX11_putFrame_106b (ztr rfl hM)  (fun _ _ _ _ _ _ _ _ _ _ _ h => ih _ _ _ _ _ _ _ _ _ _ _ h) h
def mX11_putFrame_101 : Nat := 0x600020000000000000000000000000000000000000000000000000000000000000000000000000000000000000000000000000000000000000000000000000000000000000000000000000018000000000000000000000000000000000000000000000000000000000000007eff0000000000000000000000000000000000000000000000000000000000000000000000000000000000000000000000000000000000000000
theorem wX11_putFrame_101 {M : Nat} {N : Nat} {x0 : Nat} {x1 : Nat} {x2 : Int32} {x3 : Nat} {x4 : Int32} {x5 : Int32} {x6 : Nat} {x8 : Int32} {s0 : Int32} {z0 z : St} (hM : mX11_putFrame_101 &&& M = mX11_putFrame_101)  (h : zFr M z0 z) : zPw M z0 (fX11_putFrame_101 N x0 x1 x2 x3 x4 x5 x6 x8 s0 z) := by
  unfold fX11_putFrame_101
  exact wX11_putFrame_106 (ztr rfl hM)  _ _ _ _ _ _ _ _ _ _ _ _ h
def mX11_putFrame_60 : Nat := 0x600020000000000000000000000000000000000000000000000000000000000000000000000000000000000000000000000000000000000000000000000000000000000000000000000000018200000000000000000000000000000000000000000000000000000000000007eff0000000000000000000000000000000000000000000000000000000000000000000000000000000000000000000000000000000000000000
theorem wX11_putFrame_60 {M : Nat} {N : Nat} {x0 : Nat} {x1 : Nat} {x2 : Int32} {x3 : Nat} {x4 : Int32} {x5 : Int32} {x6 : Nat} {x7 : Int32} {s0 : Int32} {z0 z : St} (hM : mX11_putFrame_60 &&& M = mX11_putFrame_60)  (h : zFr M z0 z) : zPw M z0 (fX11_putFrame_60 N x0 x1 x2 x3 x4 x5 x6 x7 s0 z) := by
  unfold fX11_putFrame_60
  exact zw_i (zw_i (wX11_putFrame_101 (ztr rfl hM)  h) (wX11_putFrame_101 (ztr rfl hM)  h)) (zw_c (wX11_stir (ztr rfl hM)  h) (fun _ z4 h1 => zw_s h1))
def mX11_putFrame_42 : Nat := 0x600020000000000000000000000000000000000000000000000000000000000000000000000000000000000000000000000000000000000000000000000000000000000000000000000000018200000000000000000000000000000000000000000000000000000000000007eff0000000000000000000000000000000000000000000000000000000000000000000000000000000000000000000000000000000000000000
theorem wX11_putFrame_42 {M : Nat} {N : Nat} {x0 : Nat} {x1 : Nat} {x2 : Int32} {x3 : Nat} {x4 : Int32} {x5 : Int32} {x6 : Nat} {x7 : Int32} {z0 z : St} (hM : mX11_putFrame_42 &&& M = mX11_putFrame_42)  (h : zFr M z0 z) : zPw M z0 (fX11_putFrame_42 N x0 x1 x2 x3 x4 x5 x6 x7 z) := by
  unfold fX11_putFrame_42
  exact zw_i (zw_i (wX11_putFrame_60 (ztr rfl hM)  h) (wX11_putFrame_60 (ztr rfl hM)  h)) (zw_s h)
def mX11_putFrame : Nat := 0x600020000000000000000000000000000000000000000000000000000000000000000000000000000000000000000000000000000000000000000000000000000000000000000000000000018200000000000000000000000000000000000000000000000000000000000007eff0000000000000000000000000000026000000000000000000000000000000000000000000000000000000000000000000000000000000000
theorem wX11_putFrame {M : Nat} {N : Nat} {x0 : Nat} {x1 : Nat} {x2 : Int32} {x3 : Nat} {x4 : Int32} {x5 : Int32} {z0 z : St} (hM : mX11_putFrame &&& M = mX11_putFrame)  (h : zFr M z0 z) : zPw M z0 (fX11_putFrame N x0 x1 x2 x3 x4 x5 z) := by
  unfold fX11_putFrame
  exact zw_l (fun y1 => zw_d (fun a2 => zw_lI h (ztb hM rfl) (fun z3 h1 => zw_i (zw_c (wX5_nextFate (ztr rfl hM)  h1) (fun r5 z6 h2 => zw_i (wX11_putFrame_42 (ztr rfl hM)  h2) (zw_c (wX11_stir (ztr rfl hM)  h2) (fun _ z11 h3 => wX11_putFrame_42 (ztr rfl hM)  h3)))) (zw_s h1))))
def mX11_putOn_52b : Nat := 0x600020020000000000000000000000000000000000000000000000000000000000000000000000000000000000000000000000000000000000000000000000000000000000000000000000018200000000000000000000000000000000000000000000000000000000000007eff0000000000000000000000000000026000000000000000000000000000000000000000000000000000000000000000000000000000000000
theorem wX11_putOn_52b {M : Nat} {N : Nat} {K52 : Nat → Nat → Int32 → Nat → Int32 → Int32 → St → Option (Int32 × St)} {x0 : Nat} {x1 : Nat} {x2 : Int32} {x3 : Nat} {x5 : Int32} {x6 : Int32} {z0 z : St} (hM : mX11_putOn_52b &&& M = mX11_putOn_52b)  (hK52 : ∀ a0 a1 a2 a3 a4 a5 a6, zFr M z0 a6 → zPw M z0 (K52 a0 a1 a2 a3 a4 a5 a6)) (h : zFr M z0 z) : zPw M z0 (fX11_putOn_52b N K52 x0 x1 x2 x3 x5 x6 z) := by
  unfold fX11_putOn_52b
  exact zw_i (zw_s h) (zw_l (fun y2 => zw_d (fun a3 => zw_k (zw_k (zw_lA h (ztb hM rfl) (fun z6 h1 => zw_c (wX11_putFrame (ztr rfl hM)  h1) (fun _ z8 h2 => zw_l (fun v11 => hK52 _ _ _ _ _ _ _ h2))))))))
def mX11_putOn_52 : Nat := 0x600020020000000000000000000000000000000000000000000000000000000000000000000000000000000000000000000000000000000000000000000000000000000000000000000000018200000000000000000000000000000000000000000000000000000000000007eff0000000000000000000000000000026000000000000000000000000000000000000000000000000000000000000000000000000000000000
theorem wX11_putOn_52 {M : Nat} {z0 : St} {N : Nat}(hM : mX11_putOn_52 &&& M = mX11_putOn_52)  : ∀ (n : Nat) (y0 : Nat) (y1 : Nat) (y2 : Int32) (y3 : Nat) (y4 : Int32) (y5 : Int32) (z : St), zFr M z0 z → zPw M z0 (fX11_putOn_52 N n y0 y1 y2 y3 y4 y5 z) := by
  intro n
  induction n with
  | zero => intro y0 y1 y2 y3 y4 y5 z h; exact zw_n
  | succ n ih => intro y0 y1 y2 y3 y4 y5 z h; exact wX11_putOn_52b (ztr rfl hM)  (fun _ _ _ _ _ _ _ h => ih _ _ _ _ _ _ _ h) h
def mX11_putOn : Nat := 0x600020020000000000000000000000000000000000000000000000000000000000000000000000000000000000000000000000000000000000000000000000000000000000000000000000018200000000000000000000000000000000000000000000000000000000000007eff0000000000000000000000000000026000000000000000000000000000000000000000000000000000000000000000000000000000000000
theorem wX11_putOn {M : Nat} {N : Nat} {x0 : Nat} {x1 : Nat} {x2 : Int32} {x3 : Nat} {z0 z : St} (hM : mX11_putOn &&& M = mX11_putOn)  (h : zFr M z0 z) : zPw M z0 (fX11_putOn N x0 x1 x2 x3 z) := by
  unfold fX11_putOn
  exact zw_l (fun y1 => zw_d (fun a2 => zw_l (fun v3 => zw_i (zw_l (fun v5 => wX11_putOn_52 (ztr rfl hM)  _ _ _ _ _ _ _ _ h)) (zw_c (wX11_putFrame (ztr rfl hM)  h) (fun _ z7 h1 => zw_s h1)))))
def mX11_putNote : Nat := 0x600020000000000000000000000000000000000000000000000000000000000000000000000000000000000000000000000000000000000000000000000000000000000000000000000000018200000000000000000000000000000000000000000000000000000000000007eff0000000000000000000000000000026000000000000000000000000000000000000000000000000000000000000000000000000000000000
theorem wX11_putNote {M : Nat} {N : Nat} {x0 : Nat} {x1 : Nat} {x2 : Int32} {x3 : Int32} {x4 : Int32} {z0 z : St} (hM : mX11_putNote &&& M = mX11_putNote)  (h : zFr M z0 z) : zPw M z0 (fX11_putNote N x0 x1 x2 x3 x4 z) := by
  unfold fX11_putNote
  exact zw_l (fun y1 => zw_d (fun a2 => zw_c (wX7_begin (ztr rfl hM)  h) (fun _ z4 h1 => zw_l (fun y7 => zw_d (fun a8 => zw_lI h1 (ztb hM rfl) (fun z9 h2 => zw_l (fun y10 => zw_d (fun a11 => zw_lI h2 (ztb hM rfl) (fun z12 h3 => zw_l (fun y13 => zw_l (fun y14 => zw_d (fun a15 => zw_d (fun a16 => zw_c (wX11_putFrame (ztr rfl hM)  h3) (fun _ z18 h4 => zw_s h4))))))))))))))
def mX11_hand_95 : Nat := 0x2000000000000000000000000000000000000000000000000000000000000000000000000000000000000000000000000000000000000000000000000000000000000000000000000000000000000000000000000000000000
theorem wX11_hand_95 {M : Nat} {N : Nat} {x0 : Nat} {z0 z : St} (hM : mX11_hand_95 &&& M = mX11_hand_95)  (h : zFr M z0 z) : zPw M z0 (fX11_hand_95 N x0 z) := by
  unfold fX11_hand_95
  exact zw_c (wX11_stir (ztr rfl hM)  h) (fun _ z2 h1 => zw_s h1)
def mX11_hand_52 : Nat := 0x5a0000000000000000000000000000000000000000000000000000000000000000000000000000000000000000000000000000000000000000000000000000000000000000000000000000200000000000000000000000000000000000000000000012000000000000000eff0000000000000000000000000000000000000000000000000000000000000000000000000000000000000000000000000000000000000000
theorem wX11_hand_52 {M : Nat} {N : Nat} {x0 : Nat} {x1 : Nat} {x2 : Int32} {x3 : Nat} {z0 z : St} (hM : mX11_hand_52 &&& M = mX11_hand_52)  (h : zFr M z0 z) : zPw M z0 (fX11_hand_52 N x0 x1 x2 x3 z) := by
  unfold fX11_hand_52
  exact zw_c (wX8_letWait (ztr rfl hM)  h) (fun _ z2 h1 => zw_i (zw_s h1) (zw_c (wX8_takeWaiting (ztr rfl hM)  h1) (fun r6 z7 h2 => zw_d (fun a10 => zw_c (wX8_firstWaitingFor (ztr rfl hM)  h2) (fun r11 z12 h3 => zw_i (wX11_hand_95 (ztr rfl hM)  h3) (zw_c (wX8_endAsking (ztr rfl hM)  h3) (fun _ z17 h4 => wX11_hand_95 (ztr rfl hM)  h4)))))))
def mX11_hand : Nat := 0x6005a0020000000000000000000000000000000000000000000000000000000000000000000000000000000000000000000000000000000000000000000000000000000000000000000000018200000000000000000000000000000000000000000000012000000000000007eff0000000000000000000000000000026000000000000000000000000000000000000000000000000000000000000000000000000000000000
theorem wX11_hand {M : Nat} {N : Nat} {x0 : Nat} {x1 : Nat} {x2 : Int32} {x3 : Nat} {z0 z : St} (hM : mX11_hand &&& M = mX11_hand)  (h : zFr M z0 z) : zPw M z0 (fX11_hand N x0 x1 x2 x3 z) := by
  unfold fX11_hand
  exact zw_c (wX8_knows (ztr rfl hM)  h) (fun r1 z2 h1 => zw_i (zw_c (wX8_isAsked (ztr rfl hM)  h1) (fun r6 z7 h2 => zw_i (wX11_hand_52 (ztr rfl hM)  h2) (zw_c (wX8_beginAsking (ztr rfl hM)  h2) (fun _ z12 h3 => zw_l (fun y15 => zw_d (fun a16 => zw_c (wX5_addressOf (ztr rfl hM)  h3) (fun r17 z18 h4 => zw_c (wX11_putNote (ztr rfl hM)  h4) (fun _ z22 h5 => wX11_hand_52 (ztr rfl hM)  h5)))))))) (zw_c (wX11_putOn (ztr rfl hM)  h1) (fun _ z26 h6 => zw_s h6)))
def mX11_release_41 : Nat := 0x1800000000000000000000000000000000000000000000000000000000000000000000000000000000000000000000000000000000000000000000000000000000000000000000000000000000000000000000000000000000000000000000000000020000000000000000000000000000000000000000000000000000000000000000000000000000000000000000000000000000000000000000000000000000000000
theorem wX11_release_41 {M : Nat} {N : Nat} {x1 : Nat} {x2 : Int32} {z0 z : St} (hM : mX11_release_41 &&& M = mX11_release_41)  (h : zFr M z0 z) : zPw M z0 (fX11_release_41 N x1 x2 z) := by
  unfold fX11_release_41
  exact zw_c (wX8_endAsking (ztr rfl hM)  h) (fun _ z2 h1 => zw_s h1)
def mX11_release_2b : Nat := 0x6005a0020000000000000000000000000000000000000000000000000000000000000000000000000000000000000000000000000000000000000000000000000000000000000000000000018200000000000000000000000000000000000000000000012000000000000007eff0000000000000000000000000000026000000000000000000000000000000000000000000000000000000000000000000000000000000000
theorem wX11_release_2b {M : Nat} {N : Nat} {K2 : Nat → Nat → Int32 → Int32 → St → Option (Int32 × St)} {x0 : Nat} {x1 : Nat} {x2 : Int32} {x3 : Int32} {z0 z : St} (hM : mX11_release_2b &&& M = mX11_release_2b)  (hK2 : ∀ a0 a1 a2 a3 a4, zFr M z0 a4 → zPw M z0 (K2 a0 a1 a2 a3 a4)) (h : zFr M z0 z) : zPw M z0 (fX11_release_2b N K2 x0 x1 x2 x3 z) := by
  unfold fX11_release_2b
  exact zw_i (wX11_release_41 (ztr rfl hM)  h) (zw_c (wX8_firstWaitingFor (ztr rfl hM)  h) (fun r2 z3 h1 => zw_i (zw_c (wX8_takeWaiting (ztr rfl hM)  h1) (fun r7 z8 h2 => zw_d (fun a11 => zw_c (wX11_putOn (ztr rfl hM)  h2) (fun _ z13 h3 => zw_l (fun v16 => hK2 _ _ _ _ _ h3))))) (wX11_release_41 (ztr rfl hM)  h1)))
def mX11_release_2 : Nat := 0x6005a0020000000000000000000000000000000000000000000000000000000000000000000000000000000000000000000000000000000000000000000000000000000000000000000000018200000000000000000000000000000000000000000000012000000000000007eff0000000000000000000000000000026000000000000000000000000000000000000000000000000000000000000000000000000000000000
theorem wX11_release_2 {M : Nat} {z0 : St} {N : Nat}(hM : mX11_release_2 &&& M = mX11_release_2)  : ∀ (n : Nat) (y0 : Nat) (y1 : Nat) (y2 : Int32) (y3 : Int32) (z : St), zFr M z0 z → zPw M z0 (fX11_release_2 N n y0 y1 y2 y3 z) := by
  intro n
  induction n with
  | zero => intro y0 y1 y2 y3 z h; exact zw_n
  | succ n ih => intro y0 y1 y2 y3 z h; exact wX11_release_2b (ztr rfl hM)  (fun _ _ _ _ _ h => ih _ _ _ _ _ h) h
def mX11_release : Nat := 0x6005a0020000000000000000000000000000000000000000000000000000000000000000000000000000000000000000000000000000000000000000000000000000000000000000000000018200000000000000000000000000000000000000000000012000000000000007eff0000000000000000000000000000026000000000000000000000000000000000000000000000000000000000000000000000000000000000
theorem wX11_release {M : Nat} {N : Nat} {x0 : Nat} {x1 : Nat} {x2 : Int32} {z0 z : St} (hM : mX11_release &&& M = mX11_release)  (h : zFr M z0 z) : zPw M z0 (fX11_release N x0 x1 x2 z) := by
  unfold fX11_release
  exact wX11_release_2 (ztr rfl hM)  _ _ _ _ _ _ h
def mX11_abortAsking_56 : Nat := 0x0
theorem wX11_abortAsking_56 {M : Nat} {N : Nat} {K3 : Nat → Int32 → Int32 → Int32 → Int32 → St → Option (Int32 × St)} {x1 : Nat} {x2 : Int32} {x3 : Int32} {x4 : Int32} {x5 : Int32} {z0 z : St} (hM : mX11_abortAsking_56 &&& M = mX11_abortAsking_56)  (hK3 : ∀ a0 a1 a2 a3 a4 a5, zFr M z0 a5 → zPw M z0 (K3 a0 a1 a2 a3 a4 a5)) (h : zFr M z0 z) : zPw M z0 (fX11_abortAsking_56 N K3 x1 x2 x3 x4 x5 z) := by
  unfold fX11_abortAsking_56
  exact zw_l (fun v1 => hK3 _ _ _ _ _ _ h)
def mX11_abortAsking_3b : Nat := 0x10000000000000000000000000000000000000000000000000000000000000000000000000000000000000000000000000000000000003a01000000000000000000000000000000000000000000000000
theorem wX11_abortAsking_3b {M : Nat} {N : Nat} {K3 : Nat → Int32 → Int32 → Int32 → Int32 → St → Option (Int32 × St)} {x1 : Nat} {x2 : Int32} {x3 : Int32} {x4 : Int32} {x5 : Int32} {z0 z : St} (hM : mX11_abortAsking_3b &&& M = mX11_abortAsking_3b)  (hK3 : ∀ a0 a1 a2 a3 a4 a5, zFr M z0 a5 → zPw M z0 (K3 a0 a1 a2 a3 a4 a5)) (h : zFr M z0 z) : zPw M z0 (fX11_abortAsking_3b N K3 x1 x2 x3 x4 x5 z) := by
  unfold fX11_abortAsking_3b
  exact zw_i (zw_s h) (zw_k (zw_l (fun y3 => zw_d (fun a4 => zw_c (wX2_isFor (ztr rfl hM)  h) (fun r5 z6 h1 => zw_i (wX11_abortAsking_56 (ztr rfl hM) hK3 h1) (zw_l (fun y10 => zw_d (fun a11 => zw_i (wX11_abortAsking_56 (ztr rfl hM) hK3 h1) (zw_l (fun y13 => zw_d (fun a14 => zw_c (wX3_finish (ztr rfl hM)  h1) (fun _ z16 h2 => wX11_abortAsking_56 (ztr rfl hM) hK3 h2))))))))))))
def mX11_abortAsking_3 : Nat := 0x10000000000000000000000000000000000000000000000000000000000000000000000000000000000000000000000000000000000003a01000000000000000000000000000000000000000000000000
theorem wX11_abortAsking_3 {M : Nat} {z0 : St} {N : Nat}(hM : mX11_abortAsking_3 &&& M = mX11_abortAsking_3)  : ∀ (n : Nat) (y0 : Nat) (y1 : Int32) (y2 : Int32) (y3 : Int32) (y4 : Int32) (z : St), zFr M z0 z → zPw M z0 (fX11_abortAsking_3 N n y0 y1 y2 y3 y4 z) := by
  intro n
  induction n with
  | zero => intro y0 y1 y2 y3 y4 z h; exact zw_n
  | succ n ih => intro y0 y1 y2 y3 y4 z h; exact wX11_abortAsking_3b (ztr rfl hM)  (fun _ _ _ _ _ _ h => ih _ _ _ _ _ _ h) h
def mX11_abortAsking : Nat := 0x10000000000000000000000000000000000000000000000000000000000000000000000000000000000000000000000000000000000003a01000000000000000000000000000000000000000000000000
theorem wX11_abortAsking {M : Nat} {N : Nat} {x0 : Nat} {x1 : Nat} {x2 : Int32} {x3 : Int32} {x4 : Int32} {z0 z : St} (hM : mX11_abortAsking &&& M = mX11_abortAsking)  (h : zFr M z0 z) : zPw M z0 (fX11_abortAsking N x0 x1 x2 x3 x4 z) := by
  unfold fX11_abortAsking
  exact wX11_abortAsking_3 (ztr rfl hM)  _ _ _ _ _ _ _ h
def mX11_errorCame : Nat := 0x200000000000000000000000000000000000000000000000000000000000000000000000000000000000000000000000000000000000000000000000000000000000000000000000000000000000000000010000000000000000000000000000000000000000000000000000000000000000000000000000000000000000000000000000000000003a01000000000000000000000000000000000000000000000000
theorem wX11_errorCame {M : Nat} {N : Nat} {x0 : Nat} {x1 : Nat} {x2 : Nat} {z0 z : St} (hM : mX11_errorCame &&& M = mX11_errorCame)  (h : zFr M z0 z) : zPw M z0 (fX11_errorCame N x0 x1 x2 z) := by
  unfold fX11_errorCame
  exact zw_k (zw_k (zw_lA h (ztb hM rfl) (fun z3 h1 => zw_i (zw_s h1) (zw_c (wX7_get4 (ztr rfl hM)  h1) (fun r5 z6 h2 => zw_c (wX1_hasAddress (ztr rfl hM)  h2) (fun r9 z10 h3 => zw_i (zw_s h3) (zw_c (wX7_get4 (ztr rfl hM)  h3) (fun r14 z15 h4 => zw_c (wX7_get2 (ztr rfl hM)  h4) (fun r18 z19 h5 => zw_c (wX7_get2 (ztr rfl hM)  h5) (fun r22 z23 h6 => zw_c (wX11_abortAsking (ztr rfl hM)  h6) (fun _ z27 h7 => zw_s h7)))))))))))
def mX11_putTogether_51 : Nat := 0x205200000000000000000000000000000000000000000000000000000000000000000000000000000000000000000000000000000000000000000000000000000000000000000000000000000000000000000000000000000000000000000000000000000000000000000000000000000000000000000000000000000000000000000000000000000000000000000000000000000000000000000000000000000000000
theorem wX11_putTogether_51 {M : Nat} {N : Nat} {x1 : Nat} {x2 : Nat} {x3 : Int32} {z0 z : St} (hM : mX11_putTogether_51 &&& M = mX11_putTogether_51)  (h : zFr M z0 z) : zPw M z0 (fX11_putTogether_51 N x1 x2 x3 z) := by
  unfold fX11_putTogether_51
  exact zw_c (wX1_addPiece (ztr rfl hM)  h) (fun r1 z2 h1 => zw_i (zw_k (zw_lA h1 (ztb hM rfl) (fun z7 h2 => zw_k (zw_k (zw_lA h2 (ztb hM rfl) (fun z10 h3 => zw_k (zw_l (fun y12 => zw_s h3)))))))) (zw_s h1))
def mX11_putTogether_41 : Nat := 0x207200000000000000000000000000000000000000000000000000000000000000000000000000000000000000000000000000000000000000000000000000000000000000000000000000000000000000000000000000000000000000000000000000000000000000006ff0000000000000000000000000000000000000000000000000000000000000000000000000000000000000000000002000000000000000000
theorem wX11_putTogether_41 {M : Nat} {N : Nat} {x0 : Nat} {x1 : Nat} {x2 : Nat} {x3 : Int32} {z0 z : St} (hM : mX11_putTogether_41 &&& M = mX11_putTogether_41)  (h : zFr M z0 z) : zPw M z0 (fX11_putTogether_41 N x0 x1 x2 x3 z) := by
  unfold fX11_putTogether_41
  exact zw_c (wX1_beginPartial (ztr rfl hM)  h) (fun _ z2 h1 => wX11_putTogether_51 (ztr rfl hM)  h1)
def mX11_putTogether : Nat := 0x207200000000000000000000000000000000000000000000000000000000000000000000000000000000000000000000000000000000000000000000000000000000000000000000000002000000000000000000000000000000000000000000000000000000000000006ff0000000000000000000000000000000000000000000000000000000000000000000000000000000000000000000002000000000000000000
theorem wX11_putTogether {M : Nat} {N : Nat} {x0 : Nat} {x1 : Nat} {x2 : Nat} {z0 z : St} (hM : mX11_putTogether &&& M = mX11_putTogether)  (h : zFr M z0 z) : zPw M z0 (fX11_putTogether N x0 x1 x2 z) := by
  unfold fX11_putTogether
  exact zw_i (zw_c (wX1_partialFor (ztr rfl hM)  h) (fun r2 z3 h1 => zw_i (wX11_putTogether_51 (ztr rfl hM)  h1) (zw_c (wX1_emptyPartial (ztr rfl hM)  h1) (fun r7 z8 h2 => zw_i (wX11_putTogether_41 (ztr rfl hM)  h2) (zw_c (wX1_earliestPartial (ztr rfl hM)  h2) (fun r12 z13 h3 => zw_c (wX11_stir (ztr rfl hM)  h3) (fun _ z17 h4 => wX11_putTogether_41 (ztr rfl hM)  h4))))))) (zw_s h)
def mX11_senderKey : Nat := 0x0
theorem wX11_senderKey {M : Nat} {N : Nat} {x0 : Nat} {x1 : Nat} {x2 : Nat} {z0 z : St} (hM : mX11_senderKey &&& M = mX11_senderKey)  (h : zFr M z0 z) : zPw M z0 (fX11_senderKey N x0 x1 x2 z) := by
  unfold fX11_senderKey
  exact zw_c (wX11_portOfAddress (ztr rfl hM)  h) (fun r1 z2 h1 => zw_o (zw_s h1) (fun a6 => zw_l (fun y7 => zw_l (fun y8 => zw_i (zw_s h1) (zw_l (fun y10 => zw_d (fun a11 => zw_i (zw_l (fun y13 => zw_l (fun y14 => zw_i (zw_l (fun y16 => zw_d (fun a17 => zw_c (wX11_keyOf (ztr rfl hM)  h1) (fun r18 z19 h2 => zw_s h2)))) (zw_s h1)))) (zw_s h1))))))))
def mX11_takeAdvert_71 : Nat := 0x80000003700000000000000000000000000000000000000000000000000000000000000000000000000000000000000000000000000000000000000000000000000000000000000000000000000000000000000000000000000000020000000000000000000000000000000000000000000000000000000000000000000000000000000000000000000000000000000000000000000000000000000000000000000000340
theorem wX11_takeAdvert_71 {M : Nat} {N : Nat} {x0 : Nat} {x1 : Nat} {x2 : Nat} {x3 : Nat} {x4 : Int32} {x5 : Int32} {x6 : Int32} {z0 z : St} (hM : mX11_takeAdvert_71 &&& M = mX11_takeAdvert_71)  (h : zFr M z0 z) : zPw M z0 (fX11_takeAdvert_71 N x0 x1 x2 x3 x4 x5 x6 z) := by
  unfold fX11_takeAdvert_71
  exact zw_l (fun y1 => zw_d (fun a2 => zw_k (zw_l (fun v4 => zw_i (zw_c (wX9_setDue (ztr rfl hM)  h) (fun _ z7 h1 => zw_i (zw_l (fun y11 => zw_d (fun a12 => zw_i (zw_l (fun y14 => zw_d (fun a15 => zw_c (wX0_takeAdvert (ztr rfl hM)  h1) (fun _ z17 h2 => zw_c (wX9_setDueToAll (ztr rfl hM)  h2) (fun _ z21 h3 => zw_s h3))))) (zw_l (fun y24 => zw_l (fun y25 => zw_d (fun a26 => zw_d (fun a27 => zw_lI h1 (ztb hM rfl) (fun z28 h4 => zw_s h4))))))))) (zw_s h1))) (zw_c (wX9_setDue (ztr rfl hM)  h) (fun _ z30 h5 => zw_s h5))))))
def mX11_takeAdvert : Nat := 0x780000003700000000000000000000000000000000000000000000000000000000000000000000000000000000000000000000000000000000000000000000000000000000000000000000002000000000000000000000000000000220000000000000000000000000000000000000000000000000000000000000000000000000000000000000000000000000000000000000000000000000000000000000000000000340
theorem wX11_takeAdvert {M : Nat} {N : Nat} {x0 : Nat} {x1 : Nat} {x2 : Nat} {z0 z : St} (hM : mX11_takeAdvert &&& M = mX11_takeAdvert)  (h : zFr M z0 z) : zPw M z0 (fX11_takeAdvert N x0 x1 x2 z) := by
  unfold fX11_takeAdvert
  exact zw_l (fun y1 => zw_d (fun a2 => zw_l (fun y3 => zw_c (wX11_senderKey (ztr rfl hM)  h) (fun r4 z5 h1 => zw_i (zw_s h1) (zw_d (fun a9 => zw_k (zw_i (zw_c (wX7_get2 (ztr rfl hM)  h1) (fun r12 z13 h2 => zw_c (wX7_get4 (ztr rfl hM)  h2) (fun r16 z17 h3 => zw_i (zw_c (wX9_addThanks (ztr rfl hM)  h3) (fun r21 z22 h4 => zw_i (wX11_takeAdvert_71 (ztr rfl hM)  h4) (zw_c (wX11_stir (ztr rfl hM)  h4) (fun _ z27 h5 => wX11_takeAdvert_71 (ztr rfl hM)  h5)))) (zw_s h3)))) (zw_s h1))))))))
def mX11_takeGreeting_71 : Nat := 0x0
theorem wX11_takeGreeting_71 {M : Nat} {N : Nat} {K40 : Nat → Nat → Nat → Option Nat → Int32 → Int32 → Int32 → Int32 → St → Option (Int32 × St)} {x0 : Nat} {x1 : Nat} {x2 : Nat} {x3 : Option Nat} {x4 : Int32} {x5 : Int32} {x6 : Int32} {x7 : Int32} {z0 z : St} (hM : mX11_takeGreeting_71 &&& M = mX11_takeGreeting_71)  (hK40 : ∀ a0 a1 a2 a3 a4 a5 a6 a7 a8, zFr M z0 a8 → zPw M z0 (K40 a0 a1 a2 a3 a4 a5 a6 a7 a8)) (h : zFr M z0 z) : zPw M z0 (fX11_takeGreeting_71 N K40 x0 x1 x2 x3 x4 x5 x6 x7 z) := by
  unfold fX11_takeGreeting_71
  exact zw_l (fun v1 => hK40 _ _ _ _ _ _ _ _ _ h)
def mX11_takeGreeting_107 : Nat := 0xb0000000000000000000000000000000000000000000000000000000000000000000000000000000000000000000000000000000000000000000000000000000000000000000000000000000000000000000000000000000000000420000000000000000000000000000000000000000000000000000000000000000000000000000000000000000000000000000000000000000000000000000000000000000000000000
theorem wX11_takeGreeting_107 {M : Nat} {N : Nat} {x0 : Nat} {x3 : Nat} {x4 : Int32} {x5 : Int32} {z0 z : St} (hM : mX11_takeGreeting_107 &&& M = mX11_takeGreeting_107)  (h : zFr M z0 z) : zPw M z0 (fX11_takeGreeting_107 N x0 x3 x4 x5 z) := by
  unfold fX11_takeGreeting_107
  exact zw_k (zw_lA h (ztb hM rfl) (fun z2 h1 => zw_c (wX9_setFriend (ztr rfl hM)  h1) (fun _ z4 h2 => zw_s h2)))
def mX11_takeGreeting_40b : Nat := 0xb8000000000000000000000000000000000000000000000000000000000000000000000000000000000000000000000000000000000000000000000000000000000000000000000000000002000000000000000000000000000000422000000000000000000000000000000000000000000000000000000000000000000000000000000000000000000000000000000000000000000000000000000000000000000000000
theorem wX11_takeGreeting_40b {M : Nat} {N : Nat} {K40 : Nat → Nat → Nat → Option Nat → Int32 → Int32 → Int32 → Int32 → St → Option (Int32 × St)} {x0 : Nat} {x1 : Nat} {x2 : Nat} {x3 : Option Nat} {x4 : Int32} {x5 : Int32} {x6 : Int32} {x7 : Int32} {z0 z : St} (hM : mX11_takeGreeting_40b &&& M = mX11_takeGreeting_40b)  (hK40 : ∀ a0 a1 a2 a3 a4 a5 a6 a7 a8, zFr M z0 a8 → zPw M z0 (K40 a0 a1 a2 a3 a4 a5 a6 a7 a8)) (h : zFr M z0 z) : zPw M z0 (fX11_takeGreeting_40b N K40 x0 x1 x2 x3 x4 x5 x6 x7 z) := by
  unfold fX11_takeGreeting_40b
  exact zw_i (zw_d (fun a2 => zw_k (zw_i (wX11_takeGreeting_107 (ztr rfl hM)  h) (zw_i (zw_c (wX9_beginHearing (ztr rfl hM)  h) (fun _ z7 h1 => wX11_takeGreeting_107 (ztr rfl hM)  h1)) (zw_c (wX11_stir (ztr rfl hM)  h) (fun _ z11 h2 => zw_s h2)))))) (zw_c (wX7_get2 (ztr rfl hM)  h) (fun r14 z15 h3 => zw_l (fun y18 => zw_d (fun a19 => zw_i (wX11_takeGreeting_71 (ztr rfl hM) hK40 h3) (wX11_takeGreeting_71 (ztr rfl hM) hK40 h3)))))
def mX11_takeGreeting_40 : Nat := 0xb8000000000000000000000000000000000000000000000000000000000000000000000000000000000000000000000000000000000000000000000000000000000000000000000000000002000000000000000000000000000000422000000000000000000000000000000000000000000000000000000000000000000000000000000000000000000000000000000000000000000000000000000000000000000000000
theorem wX11_takeGreeting_40 {M : Nat} {z0 : St} {N : Nat}(hM : mX11_takeGreeting_40 &&& M = mX11_takeGreeting_40)  : ∀ (n : Nat) (y0 : Nat) (y1 : Nat) (y2 : Nat) (y3 : Option Nat) (y4 : Int32) (y5 : Int32) (y6 : Int32) (y7 : Int32) (z : St), zFr M z0 z → zPw M z0 (fX11_takeGreeting_40 N n y0 y1 y2 y3 y4 y5 y6 y7 z) := by
  intro n
  induction n with
  | zero => intro y0 y1 y2 y3 y4 y5 y6 y7 z h; exact zw_n
  | succ n ih => intro y0 y1 y2 y3 y4 y5 y6 y7 z h; exact wX11_takeGreeting_40b (ztr rfl hM)  (fun _ _ _ _ _ _ _ _ _ h => ih _ _ _ _ _ _ _ _ _ h) h
def mX11_takeGreeting : Nat := 0xb8000000000000000000000000000000000000000000000000000000000000000000000000000000000000000000000000000000000000000000000000000000000000000000000000000002000000000000000000000000000000422000000000000000000000000000000000000000000000000000000000000000000000000000000000000000000000000000000000000000000000000000000000000000000000000
theorem wX11_takeGreeting {M : Nat} {N : Nat} {x0 : Nat} {x1 : Nat} {x2 : Nat} {z0 z : St} (hM : mX11_takeGreeting &&& M = mX11_takeGreeting)  (h : zFr M z0 z) : zPw M z0 (fX11_takeGreeting N x0 x1 x2 z) := by
  unfold fX11_takeGreeting
  exact zw_l (fun y1 => zw_d (fun a2 => zw_l (fun y3 => zw_c (wX11_senderKey (ztr rfl hM)  h) (fun r4 z5 h1 => zw_i (zw_c (wX7_get2 (ztr rfl hM)  h1) (fun r9 z10 h2 => zw_l (fun v13 => wX11_takeGreeting_40 (ztr rfl hM)  _ _ _ _ _ _ _ _ _ _ h2))) (zw_s h1)))))
def mX11_takeThanking : Nat := 0x80000000000000000000000000000000000000000000000000000000000000000000000000000000000000000000000000000000000000000000000000000000000000000000000000000000000000000000000000000000000000020000000000000000000000000000000000000000000000000000000000000000000000000000000000000000000000000000000000000000000000000000000000000000000000000
theorem wX11_takeThanking {M : Nat} {N : Nat} {x0 : Nat} {x1 : Nat} {x2 : Nat} {z0 z : St} (hM : mX11_takeThanking &&& M = mX11_takeThanking)  (h : zFr M z0 z) : zPw M z0 (fX11_takeThanking N x0 x1 x2 z) := by
  unfold fX11_takeThanking
  exact zw_l (fun y1 => zw_d (fun a2 => zw_l (fun y3 => zw_c (wX11_senderKey (ztr rfl hM)  h) (fun r4 z5 h1 => zw_c (wX7_get2 (ztr rfl hM)  h1) (fun r8 z9 h2 => zw_i (zw_s h2) (zw_i (zw_d (fun a14 => zw_l (fun y15 => zw_d (fun a16 => zw_k (zw_c (wX7_get4 (ztr rfl hM)  h2) (fun r18 z19 h3 => zw_i (zw_s h3) (zw_c (wX9_setDue (ztr rfl hM)  h3) (fun _ z24 h4 => zw_s h4)))))))) (zw_s h2)))))))
def mX11_takeAsRouter : Nat := 0x7b8000003700000000000000000000000000000000000000000000000000000000000000000000000000000000000000000000000000000000000000000000000000000000000000000000002000000000000000000000000000000622000000000000000000000000000000000000000000000000000000000000000000000000000000000000000000000000000000000000000000000000000000000000000000000340
theorem wX11_takeAsRouter {M : Nat} {N : Nat} {x0 : Nat} {x1 : Nat} {x2 : Nat} {z0 z : St} (hM : mX11_takeAsRouter &&& M = mX11_takeAsRouter)  (h : zFr M z0 z) : zPw M z0 (fX11_takeAsRouter N x0 x1 x2 z) := by
  unfold fX11_takeAsRouter
  exact zw_i (zw_i (zw_i (zw_s h) (zw_c (wX11_takeThanking (ztr rfl hM)  h) (fun _ z5 h1 => zw_s h1))) (zw_c (wX11_takeAdvert (ztr rfl hM)  h) (fun _ z9 h2 => zw_s h2))) (zw_c (wX11_takeGreeting (ztr rfl hM)  h) (fun _ z13 h3 => zw_s h3))
def mX11_resetStranger : Nat := 0x200200000000000000000000000000000000000000000000000000000000000000000000000000000000000000000000000000000000000000000000000000000000000000000000000800000000000000000000000000000000000000000000000000000000000000006ff0000000000000000000000000000000000000000000000000000000000000000000000000000000000000000000000000000000000000000
theorem wX11_resetStranger {M : Nat} {N : Nat} {x0 : Nat} {x1 : Nat} {x2 : Nat} {z0 z : St} (hM : mX11_resetStranger &&& M = mX11_resetStranger)  (h : zFr M z0 z) : zPw M z0 (fX11_resetStranger N x0 x1 x2 z) := by
  unfold fX11_resetStranger
  exact zw_c (wX7_has (ztr rfl hM)  h) (fun r1 z2 h1 => zw_i (zw_l (fun y6 => zw_c (wX7_resetFlags (ztr rfl hM)  h1) (fun r7 z8 h2 => zw_c (wX7_resetNumber (ztr rfl hM)  h2) (fun r11 z12 h3 => zw_c (wX7_resetThanked (ztr rfl hM)  h3) (fun r15 z16 h4 => zw_d (fun a19 => zw_c (wX7_beginSegment (ztr rfl hM)  h4) (fun _ z21 h5 => zw_l (fun y24 => zw_d (fun a25 => zw_lI h5 (ztb hM rfl) (fun z26 h6 => zw_l (fun y27 => zw_d (fun a28 => zw_lI h6 (ztb hM rfl) (fun z29 h7 => zw_l (fun y30 => zw_c (wX7_get2 (ztr rfl hM)  h7) (fun r31 z32 h8 => zw_d (fun a35 => zw_c (wX7_put2 (ztr rfl hM)  h8) (fun _ z37 h9 => zw_l (fun y40 => zw_c (wX7_get2 (ztr rfl hM)  h9) (fun r41 z42 h10 => zw_d (fun a45 => zw_c (wX7_put2 (ztr rfl hM)  h10) (fun _ z47 h11 => zw_l (fun y50 => zw_l (fun y51 => zw_d (fun a52 => zw_c (wX1_nextNumber (ztr rfl hM)  h11) (fun r53 z54 h12 => zw_d (fun a57 => zw_lI h12 (ztb hM rfl) (fun z58 h13 => zw_lI h13 (ztb hM rfl) (fun z59 h14 => zw_s h14)))))))))))))))))))))))))))) (zw_s h1))
def mX11_takeSegment_143 : Nat := 0x2302000000000000000000000000000000000000000000000000000000000000000000000000000000000000000000000000000000000000000000000000000000000000000000000008000000000000000007f0000000000000000000000000000000000000000000006ff0000000000003ffe000000000000000000000000000000fc000000000000bff5000000000000000000000000000000000000000000000000
theorem wX11_takeSegment_143 {M : Nat} {N : Nat} {x0 : Nat} {x1 : Nat} {x2 : Nat} {x6 : Option Nat} {z0 z : St} (hM : mX11_takeSegment_143 &&& M = mX11_takeSegment_143)  (h : zFr M z0 z) : zPw M z0 (fX11_takeSegment_143 N x0 x1 x2 x6 z) := by
  unfold fX11_takeSegment_143
  exact zw_o (zw_c (wX11_resetStranger (ztr rfl hM)  h) (fun _ z4 h1 => zw_s h1)) (fun a2 => zw_l (fun y7 => zw_d (fun a8 => zw_i (zw_l (fun y10 => zw_d (fun a11 => zw_i (zw_l (fun y13 => zw_d (fun a14 => zw_c (wX3_goesOn (ztr rfl hM)  h) (fun r15 z16 h2 => zw_i (zw_s h2) (zw_l (fun y20 => zw_d (fun a21 => zw_c (wX3_takeRest (ztr rfl hM)  h2) (fun _ z23 h3 => zw_s h3)))))))) (zw_l (fun y26 => zw_d (fun a27 => zw_c (wX3_takeAsking (ztr rfl hM)  h) (fun _ z29 h4 => zw_s h4))))))) (zw_l (fun y32 => zw_d (fun a33 => zw_c (wX3_takeListening (ztr rfl hM)  h) (fun _ z35 h5 => zw_s h5)))))))
def mX11_takeSegment : Nat := 0x2302000000000000000000000000000000000000000000000000000000000000000000000000000000000000000000000000000000000000000000000000000000000000000000000008080000000000000007f0000000000000000000000000000000000000000000f86ff0000000000003ffe000000000000000000000000000000fc000000000000ffff0000000000000fef00000000000000000000000000000000
theorem wX11_takeSegment {M : Nat} {N : Nat} {x0 : Nat} {x1 : Nat} {x2 : Nat} {z0 z : St} (hM : mX11_takeSegment &&& M = mX11_takeSegment)  (h : zFr M z0 z) : zPw M z0 (fX11_takeSegment N x0 x1 x2 z) := by
  unfold fX11_takeSegment
  exact zw_l (fun y1 => zw_c (wX7_readHead (ztr rfl hM)  h) (fun _ z3 h1 => zw_c (wX7_get2 (ztr rfl hM)  h1) (fun r6 z7 h2 => zw_c (wX7_get2 (ztr rfl hM)  h2) (fun r10 z11 h3 => zw_d (fun a14 => zw_c (wX1_liveDoor (ztr rfl hM)  h3) (fun r15 z16 h4 => zw_o (zw_i (wX11_takeSegment_143 (ztr rfl hM)  h4) (zw_c (wX1_listenerAt (ztr rfl hM)  h4) (fun r22 z23 h5 => zw_i (wX11_takeSegment_143 (ztr rfl hM)  h5) (zw_c (wX1_doorThrough (ztr rfl hM)  h5) (fun r27 z28 h6 => zw_o (zw_s h6) (fun a32 => zw_c (wX2_giveEnd (ztr rfl hM)  h6) (fun _ z34 h7 => zw_lI h7 (ztb hM rfl) (fun z37 h8 => zw_lI h8 (ztb hM rfl) (fun z38 h9 => zw_lI h9 (ztb hM rfl) (fun z39 h10 => zw_l (fun y40 => zw_c (wX11_firstNumber (ztr rfl hM)  h10) (fun r41 z42 h11 => zw_l (fun y45 => zw_d (fun a46 => zw_d (fun a47 => zw_c (wX3_begin (ztr rfl hM)  h11) (fun _ z49 h12 => wX11_takeSegment_143 (ztr rfl hM)  h12)))))))))))))))) (fun a20 => wX11_takeSegment_143 (ztr rfl hM)  h4)))))))
def mX11_arriveAt_145 : Nat := 0x0
theorem wX11_arriveAt_145 {M : Nat} {N : Nat} {z0 z : St} (hM : mX11_arriveAt_145 &&& M = mX11_arriveAt_145)  (h : zFr M z0 z) : zPw M z0 (fX11_arriveAt_145 N z) := by
  unfold fX11_arriveAt_145
  exact zw_s h
def mX11_arriveAt_151 : Nat := 0x7b823720370000000000000000000000000000000000000000000000000000000000000000000000000000000000000000000000000000000000000000000000000000000000000000000080a0000000000000007f0000000000000622000000000000000000000000000f86ff0000000000003ffe000000000000000000000000000000fc000000000000ffff0000000000000fef00000000000002000000000000000340
theorem wX11_arriveAt_151 {M : Nat} {N : Nat} {x0 : Nat} {x1 : Nat} {x2 : Nat} {x3 : Option Nat} {z0 z : St} (hM : mX11_arriveAt_151 &&& M = mX11_arriveAt_151)  (h : zFr M z0 z) : zPw M z0 (fX11_arriveAt_151 N x0 x1 x2 x3 z) := by
  unfold fX11_arriveAt_151
  exact zw_d (fun a1 => zw_c (wX11_putTogether (ztr rfl hM)  h) (fun r2 z3 h1 => zw_o (zw_s h1) (fun a7 => zw_k (zw_k (zw_lA h1 (ztb hM rfl) (fun z10 h2 => zw_i (zw_i (zw_i (zw_s h2) (zw_c (wX11_takeSegment (ztr rfl hM)  h2) (fun _ z15 h3 => zw_s h3))) (zw_c (wX11_takeAsRouter (ztr rfl hM)  h2) (fun _ z19 h4 => zw_s h4))) (zw_c (wX11_errorCame (ztr rfl hM)  h2) (fun _ z23 h5 => zw_s h5))))))))
def mX11_arriveAt_51 : Nat := 0x67b823720370000000000000000000000000000000000000000000000000000000000000000000000000000000000000000000000000000000000000000000000000000000000000000000098a0000000000000007f0000000000000622000000000000000000000000000ffeff0000000000003ffe000000000000026000000000000000fc000000000000ffff0000000000000fef00000000000002000000000000000340
theorem wX11_arriveAt_51 {M : Nat} {N : Nat} {x0 : Nat} {x1 : Nat} {x2 : Nat} {x3 : Option Nat} {z0 z : St} (hM : mX11_arriveAt_51 &&& M = mX11_arriveAt_51)  (h : zFr M z0 z) : zPw M z0 (fX11_arriveAt_51 N x0 x1 x2 x3 z) := by
  unfold fX11_arriveAt_51
  exact zw_i (zw_i (zw_i (wX11_arriveAt_151 (ztr rfl hM)  h) (zw_d (fun a4 => zw_c (wX1_hasAddress (ztr rfl hM)  h) (fun r5 z6 h1 => zw_i (wX11_arriveAt_151 (ztr rfl hM)  h1) (zw_i (zw_s h1) (zw_i (zw_s h1) (zw_i (wX11_arriveAt_145 (ztr rfl hM)  h1) (zw_i (zw_s h1) (wX11_arriveAt_145 (ztr rfl hM)  h1))))))))) (zw_s h)) (zw_i (zw_s h) (zw_c (wX11_putNote (ztr rfl hM)  h) (fun _ z16 h2 => zw_s h2)))
def mX11_arriveAt : Nat := 0x67bde3720370000000000000000000000000000000000000000000000000000000000000000000000000000000000000000000000000000000000000000000000000000000000000000000098a0000000000000007f0000000000000622000000000000120000000000000ffeff0000000000003ffe000000000000066000000000000000fc000000000000ffff0000000000000fef00000000000002000000000000000340
theorem wX11_arriveAt {M : Nat} {N : Nat} {x0 : Nat} {x1 : Nat} {x2 : Nat} {z0 z : St} (hM : mX11_arriveAt &&& M = mX11_arriveAt)  (h : zFr M z0 z) : zPw M z0 (fX11_arriveAt N x0 x1 x2 z) := by
  unfold fX11_arriveAt
  exact zw_l (fun y1 => zw_l (fun y2 => zw_d (fun a3 => zw_lI h (ztb hM rfl) (fun z4 h1 => zw_k (zw_lA h1 (ztb hM rfl) (fun z6 h2 => zw_c (wX8_isAsked (ztr rfl hM)  h2) (fun r7 z8 h3 => zw_i (wX11_arriveAt_51 (ztr rfl hM)  h3) (zw_c (wX11_release (ztr rfl hM)  h3) (fun _ z13 h4 => wX11_arriveAt_51 (ztr rfl hM)  h4)))))))))
def mX11_comeBack_82 : Nat := 0x200200000000000000000000000000000000000000000000000000000000000000000000000000000000000000000000000000000000000000000000000000000000000000000000000800000000000000000000000000000000000000000000000000000000000000006ff0000000000000000000000000000000000000000000000000000000000000000000000000000000000000000000000000000000000000000
theorem wX11_comeBack_82 {M : Nat} {N : Nat} {x0 : Nat} {x1 : Nat} {x2 : Nat} {x3 : Int32} {s0 : Option Nat} {z0 z : St} (hM : mX11_comeBack_82 &&& M = mX11_comeBack_82)  (h : zFr M z0 z) : zPw M z0 (fX11_comeBack_82 N x0 x1 x2 x3 s0 z) := by
  unfold fX11_comeBack_82
  exact zw_o (zw_s h) (fun a2 => zw_l (fun y3 => zw_d (fun a4 => zw_c (wX7_begin (ztr rfl hM)  h) (fun _ z6 h1 => zw_l (fun y9 => zw_d (fun a10 => zw_lI h1 (ztb hM rfl) (fun z11 h2 => zw_l (fun y12 => zw_d (fun a13 => zw_lI h2 (ztb hM rfl) (fun z14 h3 => zw_l (fun y15 => zw_c (wX1_nextNumber (ztr rfl hM)  h3) (fun r16 z17 h4 => zw_d (fun a20 => zw_lI h4 (ztb hM rfl) (fun z21 h5 => zw_l (fun y22 => zw_d (fun a23 => zw_c (wX7_put4 (ztr rfl hM)  h5) (fun _ z25 h6 => zw_l (fun y28 => zw_d (fun a29 => zw_c (wX7_put4 (ztr rfl hM)  h6) (fun _ z31 h7 => zw_l (fun y34 => zw_c (wX7_get2 (ztr rfl hM)  h7) (fun r35 z36 h8 => zw_d (fun a39 => zw_c (wX7_put2 (ztr rfl hM)  h8) (fun _ z41 h9 => zw_l (fun y44 => zw_c (wX7_get2 (ztr rfl hM)  h9) (fun r45 z46 h10 => zw_d (fun a49 => zw_c (wX7_put2 (ztr rfl hM)  h10) (fun _ z51 h11 => zw_l (fun y54 => zw_d (fun a55 => zw_c (wX7_put2 (ztr rfl hM)  h11) (fun _ z57 h12 => zw_lI h12 (ztb hM rfl) (fun z60 h13 => zw_s h13))))))))))))))))))))))))))))))))
def mX11_comeBack : Nat := 0x200200000000000000000000000000000000000000000000000000000000000000000000000000000000000000000000000000000000000000000000000000000000000000000000000800000000000000000010000000000000000000000000000000000000000000006ff0000000000000000000000000000000000000000000000000000000000003a01000000000000000000000000000000000000000000000000
theorem wX11_comeBack {M : Nat} {N : Nat} {x0 : Nat} {x1 : Nat} {x2 : Nat} {x3 : Int32} {z0 z : St} (hM : mX11_comeBack &&& M = mX11_comeBack)  (h : zFr M z0 z) : zPw M z0 (fX11_comeBack N x0 x1 x2 x3 z) := by
  unfold fX11_comeBack
  exact zw_i (zw_s h) (zw_i (zw_c (wX1_hasAddress (ztr rfl hM)  h) (fun r3 z4 h1 => zw_i (zw_i (wX11_comeBack_82 (ztr rfl hM)  h1) (zw_k (zw_l (fun y10 => wX11_comeBack_82 (ztr rfl hM)  h1)))) (zw_k (zw_k (zw_lA h1 (ztb hM rfl) (fun z13 h2 => zw_c (wX7_get2 (ztr rfl hM)  h2) (fun r14 z15 h3 => zw_c (wX7_get2 (ztr rfl hM)  h3) (fun r18 z19 h4 => zw_c (wX11_abortAsking (ztr rfl hM)  h4) (fun _ z23 h5 => zw_s h5))))))))) (zw_s h))
def mX11_routeFromRouter_125 : Nat := 0x0
theorem wX11_routeFromRouter_125 {M : Nat} {N : Nat} {x5 : Nat} {s0 : Option Nat} {z0 z : St} (hM : mX11_routeFromRouter_125 &&& M = mX11_routeFromRouter_125)  (h : zFr M z0 z) : zPw M z0 (fX11_routeFromRouter_125 N x5 s0 z) := by
  unfold fX11_routeFromRouter_125
  exact zw_o (zw_s h) (fun a2 => zw_s h)
def mX11_routeFromRouter : Nat := 0x0
theorem wX11_routeFromRouter {M : Nat} {N : Nat} {x0 : Nat} {x1 : Nat} {x2 : Int32} {z0 z : St} (hM : mX11_routeFromRouter &&& M = mX11_routeFromRouter)  (h : zFr M z0 z) : zPw M z0 (fX11_routeFromRouter N x0 x1 x2 z) := by
  unfold fX11_routeFromRouter
  exact zw_c (wX11_isNetAddress (ztr rfl hM)  h) (fun r1 z2 h1 => zw_i (zw_l (fun v6 => zw_l (fun y7 => zw_d (fun a8 => zw_l (fun y9 => zw_d (fun a10 => zw_k (zw_i (zw_k (zw_c (wX1_portOn (ztr rfl hM)  h1) (fun r14 z15 h2 => zw_o (zw_s h2) (fun a19 => zw_k (zw_i (zw_k (zw_c (wX11_routerOf (ztr rfl hM)  h2) (fun r23 z24 h3 => zw_o (wX11_routeFromRouter_125 (ztr rfl hM)  h3) (fun a28 => zw_k (zw_c (wX1_portOn (ztr rfl hM)  h3) (fun r30 z31 h4 => wX11_routeFromRouter_125 (ztr rfl hM)  h4)))))) (zw_s h2)))))) (zw_s h1)))))))) (zw_s h1))
def mX11_forward : Nat := 0x6005a0020000000000000000000000000000000000000000000000000000000000000000000000000000000000000000000000000000000000000000000000000000000000000000000000098200000000000000001000000000000000000000000000012000000000000007eff0000000000000000000000000000026000000000000000000000000000003a01000000000000000000000000000000000000000000000000
theorem wX11_forward {M : Nat} {N : Nat} {x0 : Nat} {x1 : Nat} {x2 : Nat} {z0 z : St} (hM : mX11_forward &&& M = mX11_forward)  (h : zFr M z0 z) : zPw M z0 (fX11_forward N x0 x1 x2 z) := by
  unfold fX11_forward
  exact zw_l (fun y1 => zw_lI h (ztb hM rfl) (fun z2 h1 => zw_lI h1 (ztb hM rfl) (fun z3 h2 => zw_i (zw_d (fun a5 => zw_c (wX11_routeFromRouter (ztr rfl hM)  h2) (fun r6 z7 h3 => zw_i (zw_k (zw_k (zw_lA h3 (ztb hM rfl) (fun z13 h4 => zw_k (zw_l (fun y15 => zw_d (fun a16 => zw_c (wX11_hand (ztr rfl hM)  h4) (fun _ z18 h5 => zw_s h5)))))))) (zw_c (wX11_comeBack (ztr rfl hM)  h3) (fun _ z22 h6 => zw_s h6))))) (zw_d (fun a25 => zw_c (wX11_comeBack (ztr rfl hM)  h2) (fun _ z27 h7 => zw_s h7))))))
def mX11_routeFromHost : Nat := 0x0
theorem wX11_routeFromHost {M : Nat} {N : Nat} {x0 : Nat} {x1 : Nat} {x2 : Int32} {z0 z : St} (hM : mX11_routeFromHost &&& M = mX11_routeFromHost)  (h : zFr M z0 z) : zPw M z0 (fX11_routeFromHost N x0 x1 x2 z) := by
  unfold fX11_routeFromHost
  exact zw_k (zw_l (fun y2 => zw_o (zw_s h) (fun a4 => zw_i (zw_c (wX11_isNetAddress (ztr rfl hM)  h) (fun r6 z7 h1 => zw_i (zw_s h1) (zw_s h1))) (zw_l (fun y11 => zw_d (fun a12 => zw_c (wX5_leastRouter (ztr rfl hM)  h) (fun r13 z14 h2 => zw_s h2)))))))
def mX11_sendOff_28 : Nat := 0x6005a0020000000000000000000000000000000000000000000000000000000000000000000000000000000000000000000000000000000000000000000000000000000000000000000000098200000000000000001000000000000000000000000000012000000000000007eff0000000000000000000000000000026000000000000000000000000000003a01000000000000000000000000000000000000000000000000
theorem wX11_sendOff_28 {M : Nat} {N : Nat} {x0 : Nat} {x1 : Nat} {x2 : Nat} {s0 : Int32} {z0 z : St} (hM : mX11_sendOff_28 &&& M = mX11_sendOff_28)  (h : zFr M z0 z) : zPw M z0 (fX11_sendOff_28 N x0 x1 x2 s0 z) := by
  unfold fX11_sendOff_28
  exact zw_i (zw_k (zw_l (fun y3 => zw_d (fun a4 => zw_c (wX11_hand (ztr rfl hM)  h) (fun _ z6 h1 => zw_s h1))))) (zw_c (wX11_comeBack (ztr rfl hM)  h) (fun _ z10 h2 => zw_s h2))
def mX11_sendOff : Nat := 0x6005a0020000000000000000000000000000000000000000000000000000000000000000000000000000000000000000000000000000000000000000000000000000000000000000000000098200000000000000001000000000000000000000000000012000000000000007eff0000000000000000000000000000026000000000000000000000000000003a01000000000000000000000000000000000000000000000000
theorem wX11_sendOff {M : Nat} {N : Nat} {x0 : Nat} {x1 : Nat} {x2 : Nat} {z0 z : St} (hM : mX11_sendOff &&& M = mX11_sendOff)  (h : zFr M z0 z) : zPw M z0 (fX11_sendOff N x0 x1 x2 z) := by
  unfold fX11_sendOff
  exact zw_i (zw_c (wX11_routeFromHost (ztr rfl hM)  h) (fun r2 z3 h1 => wX11_sendOff_28 (ztr rfl hM)  h1)) (zw_c (wX11_routeFromRouter (ztr rfl hM)  h) (fun r6 z7 h2 => wX11_sendOff_28 (ztr rfl hM)  h2))
def mX11_letArrive_173 : Nat := 0x0
theorem wX11_letArrive_173 {M : Nat} {N : Nat} {K11 : Nat → Int32 → Int32 → St → Option (Int32 × St)} {K80 : Nat → Int32 → Int32 → Nat → Option Nat → Int32 → St → Option (Int32 × St)} {x0 : Nat} {x1 : Int32} {x2 : Int32} {x3 : Nat} {x4 : Nat} {x5 : Int32} {z0 z : St} (hM : mX11_letArrive_173 &&& M = mX11_letArrive_173)  (hK11 : ∀ a0 a1 a2 a3, zFr M z0 a3 → zPw M z0 (K11 a0 a1 a2 a3)) (hK80 : ∀ a0 a1 a2 a3 a4 a5 a6, zFr M z0 a6 → zPw M z0 (K80 a0 a1 a2 a3 a4 a5 a6)) (h : zFr M z0 z) : zPw M z0 (fX11_letArrive_173 N K11 K80 x0 x1 x2 x3 x4 x5 z) := by
  unfold fX11_letArrive_173
  exact zw_l (fun v1 => hK80 _ _ _ _ _ _ _ h)
def mX11_letArrive_148 : Nat := 0x6005a0020000000000000000000000000000000000000000000000000000000000000000000000000000000000000000000000000000000000000000000000000000000000000000000000098200000000000000001000000000000000000000000000012000000000000007eff0000000000000000000000000000026000000000000000000000000000003a01000000000000000000000000000000000000000000000000
theorem wX11_letArrive_148 {M : Nat} {N : Nat} {K11 : Nat → Int32 → Int32 → St → Option (Int32 × St)} {K80 : Nat → Int32 → Int32 → Nat → Option Nat → Int32 → St → Option (Int32 × St)} {x0 : Nat} {x1 : Int32} {x2 : Int32} {x3 : Nat} {x4 : Nat} {x5 : Int32} {x6 : Nat} {z0 z : St} (hM : mX11_letArrive_148 &&& M = mX11_letArrive_148)  (hK11 : ∀ a0 a1 a2 a3, zFr M z0 a3 → zPw M z0 (K11 a0 a1 a2 a3)) (hK80 : ∀ a0 a1 a2 a3 a4 a5 a6, zFr M z0 a6 → zPw M z0 (K80 a0 a1 a2 a3 a4 a5 a6)) (h : zFr M z0 z) : zPw M z0 (fX11_letArrive_148 N K11 K80 x0 x1 x2 x3 x4 x5 x6 z) := by
  unfold fX11_letArrive_148
  exact zw_i (wX11_letArrive_173 (ztr rfl hM) hK11 hK80 h) (zw_lI h (ztb hM rfl) (fun z2 h1 => zw_l (fun y3 => zw_l (fun y4 => zw_d (fun a5 => zw_d (fun a6 => zw_c (wX11_sendOff (ztr rfl hM)  h1) (fun _ z8 h2 => wX11_letArrive_173 (ztr rfl hM) hK11 hK80 h2)))))))
def mX11_letArrive_121 : Nat := 0x67bde3720370000000000000000000000000000000000000000000000000000000000000000000000000000000000000000000000000000000000000000000000000000000000000000000098a0000000000000007f0000000000000622000000000000120000000000000ffeff0000000000003ffe000000000000066000000000000000fc000000000000ffff0000000000000fef00000000000002000000000000000340
theorem wX11_letArrive_121 {M : Nat} {N : Nat} {K11 : Nat → Int32 → Int32 → St → Option (Int32 × St)} {K80 : Nat → Int32 → Int32 → Nat → Option Nat → Int32 → St → Option (Int32 × St)} {x0 : Nat} {x1 : Int32} {x2 : Int32} {x3 : Nat} {x4 : Nat} {x5 : Int32} {z0 z : St} (hM : mX11_letArrive_121 &&& M = mX11_letArrive_121)  (hK11 : ∀ a0 a1 a2 a3, zFr M z0 a3 → zPw M z0 (K11 a0 a1 a2 a3)) (hK80 : ∀ a0 a1 a2 a3 a4 a5 a6, zFr M z0 a6 → zPw M z0 (K80 a0 a1 a2 a3 a4 a5 a6)) (h : zFr M z0 z) : zPw M z0 (fX11_letArrive_121 N K11 K80 x0 x1 x2 x3 x4 x5 z) := by
  unfold fX11_letArrive_121
  exact zw_k (zw_l (fun y2 => zw_d (fun a3 => zw_c (wX11_arriveAt (ztr rfl hM)  h) (fun r4 z5 h1 => zw_i (wX11_letArrive_148 (ztr rfl hM) hK11 hK80 h1) (zw_c (wX11_forward (ztr rfl hM)  h1) (fun _ z10 h2 => wX11_letArrive_148 (ztr rfl hM) hK11 hK80 h2))))))
def mX11_letArrive_80b : Nat := 0x67bde3720370000000000000000000000000000000000000000000000000000000000000000000000000000000000000000000000000000000000000000000000000000000000000000000098a0000000000000007f0000000000000622000000000000120000000000000ffeff0000000000003ffe000000000000066000000000000000fc000000000000ffff0000000000000fef00000000000002000000000000000340
theorem wX11_letArrive_80b {M : Nat} {N : Nat} {K11 : Nat → Int32 → Int32 → St → Option (Int32 × St)} {K80 : Nat → Int32 → Int32 → Nat → Option Nat → Int32 → St → Option (Int32 × St)} {x0 : Nat} {x1 : Int32} {x2 : Int32} {x3 : Nat} {x4 : Option Nat} {x5 : Int32} {z0 z : St} (hM : mX11_letArrive_80b &&& M = mX11_letArrive_80b)  (hK11 : ∀ a0 a1 a2 a3, zFr M z0 a3 → zPw M z0 (K11 a0 a1 a2 a3)) (hK80 : ∀ a0 a1 a2 a3 a4 a5 a6, zFr M z0 a6 → zPw M z0 (K80 a0 a1 a2 a3 a4 a5 a6)) (h : zFr M z0 z) : zPw M z0 (fX11_letArrive_80b N K11 K80 x0 x1 x2 x3 x4 x5 z) := by
  unfold fX11_letArrive_80b
  exact zw_d (fun a1 => zw_i (zw_c (wX11_giveBack (ztr rfl hM)  h) (fun _ z4 h1 => zw_l (fun v7 => hK11 _ _ _ _ h1))) (zw_i (zw_i (wX11_letArrive_121 (ztr rfl hM) hK11 hK80 h) (wX11_letArrive_173 (ztr rfl hM) hK11 hK80 h)) (zw_i (wX11_letArrive_121 (ztr rfl hM) hK11 hK80 h) (wX11_letArrive_173 (ztr rfl hM) hK11 hK80 h))))
def mX11_letArrive_80 : Nat := 0x67bde3720370000000000000000000000000000000000000000000000000000000000000000000000000000000000000000000000000000000000000000000000000000000000000000000098a0000000000000007f0000000000000622000000000000120000000000000ffeff0000000000003ffe000000000000066000000000000000fc000000000000ffff0000000000000fef00000000000002000000000000000340
theorem wX11_letArrive_80 {M : Nat} {z0 : St} {N : Nat} {K11 : Nat → Int32 → Int32 → St → Option (Int32 × St)}(hM : mX11_letArrive_80 &&& M = mX11_letArrive_80)  (hK11 : ∀ a0 a1 a2 a3, zFr M z0 a3 → zPw M z0 (K11 a0 a1 a2 a3)) : ∀ (n : Nat) (y0 : Nat) (y1 : Int32) (y2 : Int32) (y3 : Nat) (y4 : Option Nat) (y5 : Int32) (z : St), zFr M z0 z → zPw M z0 (fX11_letArrive_80 N K11 n y0 y1 y2 y3 y4 y5 z) := by
  intro n
  induction n with
  | zero => intro y0 y1 y2 y3 y4 y5 z h; exact zw_n
  | succ n ih => intro y0 y1 y2 y3 y4 y5 z h; exact wX11_letArrive_80b (ztr rfl hM) hK11 (fun _ _ _ _ _ _ _ h => ih _ _ _ _ _ _ _ h) h
def mX11_letArrive_56 : Nat := 0x67bde3720370000000000000000000000000000000000000000000000000000000000000000000000000000000000000000000000000000000000000000000000000000000000000000000098a0000000000000007f0000000000000622000000000000120000000000000ffeff0000000000003ffe000000000000066000000000000000fc000000000000ffff0000000000000fef00000000000002000000000000000340
theorem wX11_letArrive_56 {M : Nat} {N : Nat} {K11 : Nat → Int32 → Int32 → St → Option (Int32 × St)} {x0 : Nat} {x1 : Int32} {x2 : Int32} {x3 : Nat} {z0 z : St} (hM : mX11_letArrive_56 &&& M = mX11_letArrive_56)  (hK11 : ∀ a0 a1 a2 a3, zFr M z0 a3 → zPw M z0 (K11 a0 a1 a2 a3)) (h : zFr M z0 z) : zPw M z0 (fX11_letArrive_56 N K11 x0 x1 x2 x3 z) := by
  unfold fX11_letArrive_56
  exact zw_lI h (ztb hM rfl) (fun z1 h1 => zw_k (zw_l (fun y3 => wX11_letArrive_80 (ztr rfl hM) hK11 _ _ _ _ _ _ _ _ h1)))
def mX11_letArrive_11b : Nat := 0x67bde3720370000000000000000000000000000000000000000000000000000000000000000000000000000000000000000000000000000000000000000000000000000000000000000000098a0000000000000007f0000000000000622000000000000120000000000000ffeff0000000000003ffe000000000000066000000000000000fc000000000000ffff0000000000000fef00000000000002000000000000000340
theorem wX11_letArrive_11b {M : Nat} {N : Nat} {K11 : Nat → Int32 → Int32 → St → Option (Int32 × St)} {x0 : Nat} {x1 : Int32} {x2 : Int32} {z0 z : St} (hM : mX11_letArrive_11b &&& M = mX11_letArrive_11b)  (hK11 : ∀ a0 a1 a2 a3, zFr M z0 a3 → zPw M z0 (K11 a0 a1 a2 a3)) (h : zFr M z0 z) : zPw M z0 (fX11_letArrive_11b N K11 x0 x1 x2 z) := by
  unfold fX11_letArrive_11b
  exact zw_i (zw_s h) (zw_k (zw_l (fun y3 => zw_o (zw_s h) (fun a5 => zw_l (fun y6 => zw_k (zw_lQ h (ztb hM rfl) (fun z8 h1 => zw_l (fun y9 => zw_o (zw_k (zw_lQ h1 (ztb hM rfl) (fun z13 h2 => wX11_letArrive_56 (ztr rfl hM) hK11 h2))) (fun a11 => wX11_letArrive_56 (ztr rfl hM) hK11 h1)))))))))
def mX11_letArrive_11 : Nat := 0x67bde3720370000000000000000000000000000000000000000000000000000000000000000000000000000000000000000000000000000000000000000000000000000000000000000000098a0000000000000007f0000000000000622000000000000120000000000000ffeff0000000000003ffe000000000000066000000000000000fc000000000000ffff0000000000000fef00000000000002000000000000000340
theorem wX11_letArrive_11 {M : Nat} {z0 : St} {N : Nat}(hM : mX11_letArrive_11 &&& M = mX11_letArrive_11)  : ∀ (n : Nat) (y0 : Nat) (y1 : Int32) (y2 : Int32) (z : St), zFr M z0 z → zPw M z0 (fX11_letArrive_11 N n y0 y1 y2 z) := by
  intro n
  induction n with
  | zero => intro y0 y1 y2 z h; exact zw_n
  | succ n ih => intro y0 y1 y2 z h; exact wX11_letArrive_11b (ztr rfl hM)  (fun _ _ _ _ h => ih _ _ _ _ h) h
def mX11_letArrive : Nat := 0x67bde3720370000000000000000000000000000000000000000000000000000000000000000000000000000000000000000000000000000000000000000000000000000000000000000000098a0000000000000007f0000000000000622000000000000120000000000000ffeff0000000000003ffe000000000000066000000000000000fc000000000000ffff0000000000000fef00000000000002000000000000000340
theorem wX11_letArrive {M : Nat} {N : Nat} {x0 : Nat} {z0 z : St} (hM : mX11_letArrive &&& M = mX11_letArrive)  (h : zFr M z0 z) : zPw M z0 (fX11_letArrive N x0 z) := by
  unfold fX11_letArrive
  exact zw_l (fun v1 => wX11_letArrive_11 (ztr rfl hM)  _ _ _ _ _ h)
def mX11_givePartialUp_47 : Nat := 0x0
theorem wX11_givePartialUp_47 {M : Nat} {N : Nat} {K2 : Nat → Nat → Int32 → St → Option (Int32 × St)} {x0 : Nat} {x1 : Nat} {x2 : Int32} {z0 z : St} (hM : mX11_givePartialUp_47 &&& M = mX11_givePartialUp_47)  (hK2 : ∀ a0 a1 a2 a3, zFr M z0 a3 → zPw M z0 (K2 a0 a1 a2 a3)) (h : zFr M z0 z) : zPw M z0 (fX11_givePartialUp_47 N K2 x0 x1 x2 z) := by
  unfold fX11_givePartialUp_47
  exact zw_l (fun v1 => hK2 _ _ _ _ h)
def mX11_givePartialUp_2b : Nat := 0x4000000000000000000000000000000000000000000000000000000000000000000000000000000000000000000000000000000000000000000000000000000000000000000000000002000000000000000000000000000000000000000000000000000000000000000000000000000000000000000000000000000000000000000000000000000000000000000000000000000000000000000000000000000000000
theorem wX11_givePartialUp_2b {M : Nat} {N : Nat} {K2 : Nat → Nat → Int32 → St → Option (Int32 × St)} {x0 : Nat} {x1 : Nat} {x2 : Int32} {z0 z : St} (hM : mX11_givePartialUp_2b &&& M = mX11_givePartialUp_2b)  (hK2 : ∀ a0 a1 a2 a3, zFr M z0 a3 → zPw M z0 (K2 a0 a1 a2 a3)) (h : zFr M z0 z) : zPw M z0 (fX11_givePartialUp_2b N K2 x0 x1 x2 z) := by
  unfold fX11_givePartialUp_2b
  exact zw_i (zw_s h) (zw_k (zw_i (wX11_givePartialUp_47 (ztr rfl hM) hK2 h) (zw_k (zw_i (zw_k (zw_lA h (ztb hM rfl) (fun z7 h1 => zw_c (wX11_stir (ztr rfl hM)  h1) (fun _ z9 h2 => wX11_givePartialUp_47 (ztr rfl hM) hK2 h2)))) (wX11_givePartialUp_47 (ztr rfl hM) hK2 h)))))
def mX11_givePartialUp_2 : Nat := 0x4000000000000000000000000000000000000000000000000000000000000000000000000000000000000000000000000000000000000000000000000000000000000000000000000002000000000000000000000000000000000000000000000000000000000000000000000000000000000000000000000000000000000000000000000000000000000000000000000000000000000000000000000000000000000
theorem wX11_givePartialUp_2 {M : Nat} {z0 : St} {N : Nat}(hM : mX11_givePartialUp_2 &&& M = mX11_givePartialUp_2)  : ∀ (n : Nat) (y0 : Nat) (y1 : Nat) (y2 : Int32) (z : St), zFr M z0 z → zPw M z0 (fX11_givePartialUp_2 N n y0 y1 y2 z) := by
  intro n
  induction n with
  | zero => intro y0 y1 y2 z h; exact zw_n
  | succ n ih => intro y0 y1 y2 z h; exact wX11_givePartialUp_2b (ztr rfl hM)  (fun _ _ _ _ h => ih _ _ _ _ h) h
def mX11_givePartialUp : Nat := 0x4000000000000000000000000000000000000000000000000000000000000000000000000000000000000000000000000000000000000000000000000000000000000000000000000002000000000000000000000000000000000000000000000000000000000000000000000000000000000000000000000000000000000000000000000000000000000000000000000000000000000000000000000000000000000
theorem wX11_givePartialUp {M : Nat} {N : Nat} {x0 : Nat} {x1 : Nat} {z0 z : St} (hM : mX11_givePartialUp &&& M = mX11_givePartialUp)  (h : zFr M z0 z) : zPw M z0 (fX11_givePartialUp N x0 x1 z) := by
  unfold fX11_givePartialUp
  exact wX11_givePartialUp_2 (ztr rfl hM)  _ _ _ _ _ h
def mX11_doAskings_185 : Nat := 0x0
theorem wX11_doAskings_185 {M : Nat} {N : Nat} {K2 : Nat → Nat → Int32 → St → Option (Int32 × St)} {K26 : Nat → Nat → Int32 → Nat → Int32 → Int32 → St → Option (Int32 × St)} {K126 : Nat → Nat → Int32 → Nat → Int32 → Int32 → Int32 → Int32 → Int32 → St → Option (Int32 × St)} {x0 : Nat} {x1 : Nat} {x2 : Int32} {x3 : Nat} {x4 : Int32} {x5 : Int32} {x6 : Int32} {x8 : Int32} {x9 : Int32} {z0 z : St} (hM : mX11_doAskings_185 &&& M = mX11_doAskings_185)  (hK2 : ∀ a0 a1 a2 a3, zFr M z0 a3 → zPw M z0 (K2 a0 a1 a2 a3)) (hK26 : ∀ a0 a1 a2 a3 a4 a5 a6, zFr M z0 a6 → zPw M z0 (K26 a0 a1 a2 a3 a4 a5 a6)) (hK126 : ∀ a0 a1 a2 a3 a4 a5 a6 a7 a8 a9, zFr M z0 a9 → zPw M z0 (K126 a0 a1 a2 a3 a4 a5 a6 a7 a8 a9)) (h : zFr M z0 z) : zPw M z0 (fX11_doAskings_185 N K2 K26 K126 x0 x1 x2 x3 x4 x5 x6 x8 x9 z) := by
  unfold fX11_doAskings_185
  exact zw_l (fun v1 => hK126 _ _ _ _ _ _ _ _ _ _ h)
def mX11_doAskings_191 : Nat := 0x0
theorem wX11_doAskings_191 {M : Nat} {N : Nat} {K2 : Nat → Nat → Int32 → St → Option (Int32 × St)} {K26 : Nat → Nat → Int32 → Nat → Int32 → Int32 → St → Option (Int32 × St)} {x0 : Nat} {x1 : Nat} {x2 : Int32} {x3 : Nat} {x4 : Int32} {x5 : Int32} {z0 z : St} (hM : mX11_doAskings_191 &&& M = mX11_doAskings_191)  (hK2 : ∀ a0 a1 a2 a3, zFr M z0 a3 → zPw M z0 (K2 a0 a1 a2 a3)) (hK26 : ∀ a0 a1 a2 a3 a4 a5 a6, zFr M z0 a6 → zPw M z0 (K26 a0 a1 a2 a3 a4 a5 a6)) (h : zFr M z0 z) : zPw M z0 (fX11_doAskings_191 N K2 K26 x0 x1 x2 x3 x4 x5 z) := by
  unfold fX11_doAskings_191
  exact zw_l (fun v1 => hK26 _ _ _ _ _ _ _ h)
def mX11_doAskings_126b : Nat := 0x6005a0020000000000000000000000000000000000000000000000000000000000000000000000000000000000000000000000000000000000000000000000000000000000000000000000098200000000000000001000000000000000000000000000012000000000000007eff0000000000000000000000000000026000000000000000000000000000003a01000000000000000000000000000000000000000000000000
theorem wX11_doAskings_126b {M : Nat} {N : Nat} {K2 : Nat → Nat → Int32 → St → Option (Int32 × St)} {K26 : Nat → Nat → Int32 → Nat → Int32 → Int32 → St → Option (Int32 × St)} {K126 : Nat → Nat → Int32 → Nat → Int32 → Int32 → Int32 → Int32 → Int32 → St → Option (Int32 × St)} {x0 : Nat} {x1 : Nat} {x2 : Int32} {x3 : Nat} {x4 : Int32} {x5 : Int32} {x6 : Int32} {x8 : Int32} {x9 : Int32} {z0 z : St} (hM : mX11_doAskings_126b &&& M = mX11_doAskings_126b)  (hK2 : ∀ a0 a1 a2 a3, zFr M z0 a3 → zPw M z0 (K2 a0 a1 a2 a3)) (hK26 : ∀ a0 a1 a2 a3 a4 a5 a6, zFr M z0 a6 → zPw M z0 (K26 a0 a1 a2 a3 a4 a5 a6)) (hK126 : ∀ a0 a1 a2 a3 a4 a5 a6 a7 a8 a9, zFr M z0 a9 → zPw M z0 (K126 a0 a1 a2 a3 a4 a5 a6 a7 a8 a9)) (h : zFr M z0 z) : zPw M z0 (fX11_doAskings_126b N K2 K26 K126 x0 x1 x2 x3 x4 x5 x6 x8 x9 z) := by
  unfold fX11_doAskings_126b
  exact zw_i (wX11_doAskings_191 (ztr rfl hM) hK2 hK26 h) (zw_c (wX8_firstWaitingFor (ztr rfl hM)  h) (fun r2 z3 h1 => zw_i (zw_c (wX8_takeWaiting (ztr rfl hM)  h1) (fun r7 z8 h2 => zw_d (fun a11 => zw_c (wX11_comeBack (ztr rfl hM)  h2) (fun _ z13 h3 => zw_i (zw_lI h3 (ztb hM rfl) (fun z17 h4 => zw_l (fun y18 => zw_d (fun a19 => zw_c (wX11_sendOff (ztr rfl hM)  h4) (fun _ z21 h5 => wX11_doAskings_185 (ztr rfl hM) hK2 hK26 hK126 h5))))) (wX11_doAskings_185 (ztr rfl hM) hK2 hK26 hK126 h3))))) (wX11_doAskings_191 (ztr rfl hM) hK2 hK26 h1)))
def mX11_doAskings_126 : Nat := 0x6005a0020000000000000000000000000000000000000000000000000000000000000000000000000000000000000000000000000000000000000000000000000000000000000000000000098200000000000000001000000000000000000000000000012000000000000007eff0000000000000000000000000000026000000000000000000000000000003a01000000000000000000000000000000000000000000000000
theorem wX11_doAskings_126 {M : Nat} {z0 : St} {N : Nat} {K2 : Nat → Nat → Int32 → St → Option (Int32 × St)} {K26 : Nat → Nat → Int32 → Nat → Int32 → Int32 → St → Option (Int32 × St)}(hM : mX11_doAskings_126 &&& M = mX11_doAskings_126)  (hK2 : ∀ a0 a1 a2 a3, zFr M z0 a3 → zPw M z0 (K2 a0 a1 a2 a3)) (hK26 : ∀ a0 a1 a2 a3 a4 a5 a6, zFr M z0 a6 → zPw M z0 (K26 a0 a1 a2 a3 a4 a5 a6)) : ∀ (n : Nat) (y0 : Nat) (y1 : Nat) (y2 : Int32) (y3 : Nat) (y4 : Int32) (y5 : Int32) (y6 : Int32) (y7 : Int32) (y8 : Int32) (z : St), zFr M z0 z → zPw M z0 (fX11_doAskings_126 N K2 K26 n y0 y1 y2 y3 y4 y5 y6 y7 y8 z) := by
  intro n
  induction n with
  | zero => intro y0 y1 y2 y3 y4 y5 y6 y7 y8 z h; exact zw_n
  | succ n ih => intro y0 y1 y2 y3 y4 y5 y6 y7 y8 z h; exact wX11_doAskings_126b (ztr rfl hM) hK2 hK26 (fun _ _ _ _ _ _ _ _ _ _ h => ih _ _ _ _ _ _ _ _ _ _ h) h
def mX11_doAskings_98 : Nat := 0x6005a0020000000000000000000000000000000000000000000000000000000000000000000000000000000000000000000000000000000000000000000000000000000000000000000000098200000000000000001000000000000000000000000000012000000000000007eff0000000000000000000000000000026000000000000000000000000000003a01000000000000000000000000000000000000000000000000
theorem wX11_doAskings_98 {M : Nat} {N : Nat} {K2 : Nat → Nat → Int32 → St → Option (Int32 × St)} {K26 : Nat → Nat → Int32 → Nat → Int32 → Int32 → St → Option (Int32 × St)} {x0 : Nat} {x1 : Nat} {x2 : Int32} {x3 : Nat} {x4 : Int32} {x5 : Int32} {x6 : Int32} {x7 : Int32} {z0 z : St} (hM : mX11_doAskings_98 &&& M = mX11_doAskings_98)  (hK2 : ∀ a0 a1 a2 a3, zFr M z0 a3 → zPw M z0 (K2 a0 a1 a2 a3)) (hK26 : ∀ a0 a1 a2 a3 a4 a5 a6, zFr M z0 a6 → zPw M z0 (K26 a0 a1 a2 a3 a4 a5 a6)) (h : zFr M z0 z) : zPw M z0 (fX11_doAskings_98 N K2 K26 x0 x1 x2 x3 x4 x5 x6 x7 z) := by
  unfold fX11_doAskings_98
  exact zw_i (zw_c (wX8_countWaitingFor (ztr rfl hM)  h) (fun r2 z3 h1 => zw_c (wX8_endAsking (ztr rfl hM)  h1) (fun _ z7 h2 => wX11_doAskings_126 (ztr rfl hM) hK2 hK26 _ _ _ _ _ _ _ _ _ _ _ h2))) (wX11_doAskings_191 (ztr rfl hM) hK2 hK26 h)
def mX11_doAskings_82 : Nat := 0x6005a0020000000000000000000000000000000000000000000000000000000000000000000000000000000000000000000000000000000000000000000000000000000000000000000000098200000000000000001000000000000000000000000000012000000000000007eff0000000000000000000000000000026000000000000000000000000000003a01000000000000000000000000000000000000000000000000
theorem wX11_doAskings_82 {M : Nat} {N : Nat} {K2 : Nat → Nat → Int32 → St → Option (Int32 × St)} {K26 : Nat → Nat → Int32 → Nat → Int32 → Int32 → St → Option (Int32 × St)} {x0 : Nat} {x1 : Nat} {x2 : Int32} {x3 : Nat} {x4 : Int32} {x5 : Int32} {x6 : Int32} {x7 : Int32} {z0 z : St} (hM : mX11_doAskings_82 &&& M = mX11_doAskings_82)  (hK2 : ∀ a0 a1 a2 a3, zFr M z0 a3 → zPw M z0 (K2 a0 a1 a2 a3)) (hK26 : ∀ a0 a1 a2 a3 a4 a5 a6, zFr M z0 a6 → zPw M z0 (K26 a0 a1 a2 a3 a4 a5 a6)) (h : zFr M z0 z) : zPw M z0 (fX11_doAskings_82 N K2 K26 x0 x1 x2 x3 x4 x5 x6 x7 z) := by
  unfold fX11_doAskings_82
  exact zw_l (fun y1 => zw_d (fun a2 => zw_c (wX5_addressOf (ztr rfl hM)  h) (fun r3 z4 h1 => zw_c (wX11_putNote (ztr rfl hM)  h1) (fun _ z8 h2 => wX11_doAskings_98 (ztr rfl hM) hK2 hK26 h2))))
def mX11_doAskings_26b : Nat := 0x6005a0020000000000000000000000000000000000000000000000000000000000000000000000000000000000000000000000000000000000000000000000000000000000000000000000098200000000000000001000000000000000000000000000012000000000000007eff0000000000000000000000000000026000000000000000000000000000003a01000000000000000000000000000000000000000000000000
theorem wX11_doAskings_26b {M : Nat} {N : Nat} {K2 : Nat → Nat → Int32 → St → Option (Int32 × St)} {K26 : Nat → Nat → Int32 → Nat → Int32 → Int32 → St → Option (Int32 × St)} {x0 : Nat} {x1 : Nat} {x2 : Int32} {x3 : Nat} {x4 : Int32} {x5 : Int32} {z0 z : St} (hM : mX11_doAskings_26b &&& M = mX11_doAskings_26b)  (hK2 : ∀ a0 a1 a2 a3, zFr M z0 a3 → zPw M z0 (K2 a0 a1 a2 a3)) (hK26 : ∀ a0 a1 a2 a3 a4 a5 a6, zFr M z0 a6 → zPw M z0 (K26 a0 a1 a2 a3 a4 a5 a6)) (h : zFr M z0 z) : zPw M z0 (fX11_doAskings_26b N K2 K26 x0 x1 x2 x3 x4 x5 z) := by
  unfold fX11_doAskings_26b
  exact zw_i (zw_l (fun v2 => hK2 _ _ _ _ h)) (zw_k (zw_l (fun v4 => zw_c (wX8_isAsked (ztr rfl hM)  h) (fun r5 z6 h1 => zw_i (zw_k (zw_l (fun v11 => zw_i (wX11_doAskings_82 (ztr rfl hM) hK2 hK26 h1) (zw_i (wX11_doAskings_98 (ztr rfl hM) hK2 hK26 h1) (wX11_doAskings_82 (ztr rfl hM) hK2 hK26 h1))))) (wX11_doAskings_191 (ztr rfl hM) hK2 hK26 h1)))))
def mX11_doAskings_26 : Nat := 0x6005a0020000000000000000000000000000000000000000000000000000000000000000000000000000000000000000000000000000000000000000000000000000000000000000000000098200000000000000001000000000000000000000000000012000000000000007eff0000000000000000000000000000026000000000000000000000000000003a01000000000000000000000000000000000000000000000000
theorem wX11_doAskings_26 {M : Nat} {z0 : St} {N : Nat} {K2 : Nat → Nat → Int32 → St → Option (Int32 × St)}(hM : mX11_doAskings_26 &&& M = mX11_doAskings_26)  (hK2 : ∀ a0 a1 a2 a3, zFr M z0 a3 → zPw M z0 (K2 a0 a1 a2 a3)) : ∀ (n : Nat) (y0 : Nat) (y1 : Nat) (y2 : Int32) (y3 : Nat) (y4 : Int32) (y5 : Int32) (z : St), zFr M z0 z → zPw M z0 (fX11_doAskings_26 N K2 n y0 y1 y2 y3 y4 y5 z) := by
  intro n
  induction n with
  | zero => intro y0 y1 y2 y3 y4 y5 z h; exact zw_n
  | succ n ih => intro y0 y1 y2 y3 y4 y5 z h; exact wX11_doAskings_26b (ztr rfl hM) hK2 (fun _ _ _ _ _ _ _ h => ih _ _ _ _ _ _ _ h) h
def mX11_doAskings_2b : Nat := 0x6007a0020000000000000000000000000000000000000000000000000000000000000000000000000000000000000000000000000000000000000000000000000000000000000000000000098200000000000000001000000000000000000000000000012000000000000007eff0000000000000000000000000000026000000000000000000000000000003a01000000000000000000000000000000000000000000000000
theorem wX11_doAskings_2b {M : Nat} {N : Nat} {K2 : Nat → Nat → Int32 → St → Option (Int32 × St)} {x0 : Nat} {x1 : Nat} {x2 : Int32} {z0 z : St} (hM : mX11_doAskings_2b &&& M = mX11_doAskings_2b)  (hK2 : ∀ a0 a1 a2 a3, zFr M z0 a3 → zPw M z0 (K2 a0 a1 a2 a3)) (h : zFr M z0 z) : zPw M z0 (fX11_doAskings_2b N K2 x0 x1 x2 z) := by
  unfold fX11_doAskings_2b
  exact zw_i (zw_s h) (zw_k (zw_l (fun y3 => zw_d (fun a4 => zw_c (wX8_rememberAsked (ztr rfl hM)  h) (fun r5 z6 h1 => wX11_doAskings_26 (ztr rfl hM) hK2 _ _ _ _ _ _ _ _ h1)))))
def mX11_doAskings_2 : Nat := 0x6007a0020000000000000000000000000000000000000000000000000000000000000000000000000000000000000000000000000000000000000000000000000000000000000000000000098200000000000000001000000000000000000000000000012000000000000007eff0000000000000000000000000000026000000000000000000000000000003a01000000000000000000000000000000000000000000000000
theorem wX11_doAskings_2 {M : Nat} {z0 : St} {N : Nat}(hM : mX11_doAskings_2 &&& M = mX11_doAskings_2)  : ∀ (n : Nat) (y0 : Nat) (y1 : Nat) (y2 : Int32) (z : St), zFr M z0 z → zPw M z0 (fX11_doAskings_2 N n y0 y1 y2 z) := by
  intro n
  induction n with
  | zero => intro y0 y1 y2 z h; exact zw_n
  | succ n ih => intro y0 y1 y2 z h; exact wX11_doAskings_2b (ztr rfl hM)  (fun _ _ _ _ h => ih _ _ _ _ h) h
def mX11_doAskings : Nat := 0x6007a0020000000000000000000000000000000000000000000000000000000000000000000000000000000000000000000000000000000000000000000000000000000000000000000000098200000000000000001000000000000000000000000000012000000000000007eff0000000000000000000000000000026000000000000000000000000000003a01000000000000000000000000000000000000000000000000
theorem wX11_doAskings {M : Nat} {N : Nat} {x0 : Nat} {x1 : Nat} {z0 z : St} (hM : mX11_doAskings &&& M = mX11_doAskings)  (h : zFr M z0 z) : zPw M z0 (fX11_doAskings N x0 x1 z) := by
  unfold fX11_doAskings
  exact wX11_doAskings_2 (ztr rfl hM)  _ _ _ _ _ h
def mX11_forgetSilent_69 : Nat := 0x0
theorem wX11_forgetSilent_69 {M : Nat} {N : Nat} {K12 : Nat → Nat → Nat → Int32 → St → Option (Int32 × St)} {x0 : Nat} {x1 : Nat} {x2 : Nat} {x3 : Int32} {z0 z : St} (hM : mX11_forgetSilent_69 &&& M = mX11_forgetSilent_69)  (hK12 : ∀ a0 a1 a2 a3 a4, zFr M z0 a4 → zPw M z0 (K12 a0 a1 a2 a3 a4)) (h : zFr M z0 z) : zPw M z0 (fX11_forgetSilent_69 N K12 x0 x1 x2 x3 z) := by
  unfold fX11_forgetSilent_69
  exact zw_l (fun v1 => hK12 _ _ _ _ _ h)
def mX11_forgetSilent_64 : Nat := 0xb8000000000000000000000000000000000000000000000000000000000000000000000000000000000000000000000000000000000000000000000000000000000000000000000000000000000000000000000000000000000000422000000000000000000000000000000000000000000000000000000000000000000000000000000000000000000000000000000000000000000000000000000000000000000000000
theorem wX11_forgetSilent_64 {M : Nat} {N : Nat} {K12 : Nat → Nat → Nat → Int32 → St → Option (Int32 × St)} {x0 : Nat} {x1 : Nat} {x2 : Nat} {x3 : Int32} {z0 z : St} (hM : mX11_forgetSilent_64 &&& M = mX11_forgetSilent_64)  (hK12 : ∀ a0 a1 a2 a3 a4, zFr M z0 a4 → zPw M z0 (K12 a0 a1 a2 a3 a4)) (h : zFr M z0 z) : zPw M z0 (fX11_forgetSilent_64 N K12 x0 x1 x2 x3 z) := by
  unfold fX11_forgetSilent_64
  exact zw_c (wX9_forget (ztr rfl hM)  h) (fun _ z2 h1 => wX11_forgetSilent_69 (ztr rfl hM) hK12 h1)
def mX11_forgetSilent_12b : Nat := 0xb8000000000000000000000000000000000000000000000000000000000000000000000000000000000000000000000000000000000000000000000000000000000000000000000000000000000000000000000000000000000000422000000000000000000000000000000000000000000000000000000000000000000000000000000000000000000000000000000000000000000000000000000000000000000000000
theorem wX11_forgetSilent_12b {M : Nat} {N : Nat} {K12 : Nat → Nat → Nat → Int32 → St → Option (Int32 × St)} {x0 : Nat} {x1 : Nat} {x2 : Nat} {x3 : Int32} {z0 z : St} (hM : mX11_forgetSilent_12b &&& M = mX11_forgetSilent_12b)  (hK12 : ∀ a0 a1 a2 a3 a4, zFr M z0 a4 → zPw M z0 (K12 a0 a1 a2 a3 a4)) (h : zFr M z0 z) : zPw M z0 (fX11_forgetSilent_12b N K12 x0 x1 x2 x3 z) := by
  unfold fX11_forgetSilent_12b
  exact zw_i (zw_s h) (zw_k (zw_l (fun v3 => zw_k (zw_l (fun y5 => zw_d (fun a6 => zw_l (fun y7 => zw_d (fun a8 => zw_i (wX11_forgetSilent_64 (ztr rfl hM) hK12 h) (zw_k (zw_i (wX11_forgetSilent_69 (ztr rfl hM) hK12 h) (wX11_forgetSilent_64 (ztr rfl hM) hK12 h)))))))))))
def mX11_forgetSilent_12 : Nat := 0xb8000000000000000000000000000000000000000000000000000000000000000000000000000000000000000000000000000000000000000000000000000000000000000000000000000000000000000000000000000000000000422000000000000000000000000000000000000000000000000000000000000000000000000000000000000000000000000000000000000000000000000000000000000000000000000
theorem wX11_forgetSilent_12 {M : Nat} {z0 : St} {N : Nat}(hM : mX11_forgetSilent_12 &&& M = mX11_forgetSilent_12)  : ∀ (n : Nat) (y0 : Nat) (y1 : Nat) (y2 : Nat) (y3 : Int32) (z : St), zFr M z0 z → zPw M z0 (fX11_forgetSilent_12 N n y0 y1 y2 y3 z) := by
  intro n
  induction n with
  | zero => intro y0 y1 y2 y3 z h; exact zw_n
  | succ n ih => intro y0 y1 y2 y3 z h; exact wX11_forgetSilent_12b (ztr rfl hM)  (fun _ _ _ _ _ h => ih _ _ _ _ _ h) h
def mX11_forgetSilent : Nat := 0xb8000000000000000000000000000000000000000000000000000000000000000000000000000000000000000000000000000000000000000000000000000000000000000000000000000000000000000000000000000000000000422000000000000000000000000000000000000000000000000000000000000000000000000000000000000000000000000000000000000000000000000000000000000000000000000
theorem wX11_forgetSilent {M : Nat} {N : Nat} {x0 : Nat} {x1 : Nat} {z0 z : St} (hM : mX11_forgetSilent &&& M = mX11_forgetSilent)  (h : zFr M z0 z) : zPw M z0 (fX11_forgetSilent N x0 x1 z) := by
  unfold fX11_forgetSilent
  exact zw_l (fun y1 => zw_d (fun a2 => zw_l (fun v3 => wX11_forgetSilent_12 (ztr rfl hM)  _ _ _ _ _ _ h)))
def mX11_makeOwnAdvert_121 : Nat := 0x80000001700000000000000000000000000000000000000000000000000000000000000000000000000000000000000000000000000000000000000000000000000000000000000000000000000000000000000000000000000000020000000000000000000000000000000000000000000000000000000000000000000000000000000000000000000000000000000000000000000000000000000000000000000000380
theorem wX11_makeOwnAdvert_121 {M : Nat} {N : Nat} {x0 : Nat} {x1 : Nat} {x2 : Nat} {x3 : Nat} {z0 z : St} (hM : mX11_makeOwnAdvert_121 &&& M = mX11_makeOwnAdvert_121)  (h : zFr M z0 z) : zPw M z0 (fX11_makeOwnAdvert_121 N x0 x1 x2 x3 z) := by
  unfold fX11_makeOwnAdvert_121
  exact zw_lI h (ztb hM rfl) (fun z1 h1 => zw_lI h1 (ztb hM rfl) (fun z2 h2 => zw_c (wX0_takeDraft (ztr rfl hM)  h2) (fun _ z4 h3 => zw_c (wX9_setDueToAll (ztr rfl hM)  h3) (fun _ z8 h4 => zw_s h4))))
def mX11_makeOwnAdvert_90 : Nat := 0x800000037000000000000000000000000000000000000000000000000000000000000000000000000000000000000000000000000000000000000000000000000000000000000000000000000000000000000000000000000000004200000000000000000000000000000000000000000000000000000000000000000000000000000000000000000000000000000000000000000000000000000000000000000000003c0
theorem wX11_makeOwnAdvert_90 {M : Nat} {N : Nat} {x0 : Nat} {x1 : Nat} {x2 : Nat} {x3 : Nat} {x5 : Int32} {z0 z : St} (hM : mX11_makeOwnAdvert_90 &&& M = mX11_makeOwnAdvert_90)  (h : zFr M z0 z) : zPw M z0 (fX11_makeOwnAdvert_90 N x0 x1 x2 x3 x5 z) := by
  unfold fX11_makeOwnAdvert_90
  exact zw_c (wX9_draftAdvert (ztr rfl hM)  h) (fun _ z2 h1 => zw_lI h1 (ztb hM rfl) (fun z5 h2 => zw_i (wX11_makeOwnAdvert_121 (ztr rfl hM)  h2) (zw_c (wX0_tellsDraft (ztr rfl hM)  h2) (fun r7 z8 h3 => zw_i (wX11_makeOwnAdvert_121 (ztr rfl hM)  h3) (zw_s h3)))))
def mX11_makeOwnAdvert_75 : Nat := 0x800000037000000000000000000000000000000000000000000000000000000000000000000000000000000000000000000000000000000000000000000000000000000000000000000000000000000000000000000000000000004200000000000000000000000000000000000000000000000000000000000000000000000000000000000000000000000000000000000000000000000000000000000000000000003c0
theorem wX11_makeOwnAdvert_75 {M : Nat} {N : Nat} {x0 : Nat} {x1 : Nat} {x2 : Nat} {x3 : Nat} {s0 : Int32} {z0 z : St} (hM : mX11_makeOwnAdvert_75 &&& M = mX11_makeOwnAdvert_75)  (h : zFr M z0 z) : zPw M z0 (fX11_makeOwnAdvert_75 N x0 x1 x2 x3 s0 z) := by
  unfold fX11_makeOwnAdvert_75
  exact zw_i (wX11_makeOwnAdvert_90 (ztr rfl hM)  h) (zw_i (wX11_makeOwnAdvert_90 (ztr rfl hM)  h) (zw_s h))
def mX11_makeOwnAdvert_70 : Nat := 0x800000037000000000000000000000000000000000000000000000000000000000000000000000000000000000000000000000000000000000000000000000000000000000000000000000000000000000000000000000000000004200000000000000000000000000000000000000000000000000000000000000000000000000000000000000000000000000000000000000000000000000000000000000000000003c0
theorem wX11_makeOwnAdvert_70 {M : Nat} {N : Nat} {x0 : Nat} {x1 : Nat} {x2 : Nat} {x3 : Nat} {z0 z : St} (hM : mX11_makeOwnAdvert_70 &&& M = mX11_makeOwnAdvert_70)  (h : zFr M z0 z) : zPw M z0 (fX11_makeOwnAdvert_70 N x0 x1 x2 x3 z) := by
  unfold fX11_makeOwnAdvert_70
  exact wX11_makeOwnAdvert_75 (ztr rfl hM)  h
def mX11_makeOwnAdvert_41 : Nat := 0x800000037000000000000000000000000000000000000000000000000000000000000000000000000000000000000000000000000000000000000000000000000000000000000000000000000000000000000000000000000000004200000000000000000000000000000000000000000000000000000000000000000000000000000000000000000000000000000000000000000000000000000000000000000000003c0
theorem wX11_makeOwnAdvert_41 {M : Nat} {N : Nat} {x0 : Nat} {x1 : Nat} {x2 : Nat} {x3 : Nat} {x4 : Int32} {z0 z : St} (hM : mX11_makeOwnAdvert_41 &&& M = mX11_makeOwnAdvert_41)  (h : zFr M z0 z) : zPw M z0 (fX11_makeOwnAdvert_41 N x0 x1 x2 x3 x4 z) := by
  unfold fX11_makeOwnAdvert_41
  exact zw_i (wX11_makeOwnAdvert_70 (ztr rfl hM)  h) (zw_i (wX11_makeOwnAdvert_70 (ztr rfl hM)  h) (zw_i (wX11_makeOwnAdvert_75 (ztr rfl hM)  h) (wX11_makeOwnAdvert_70 (ztr rfl hM)  h)))
def mX11_makeOwnAdvert : Nat := 0x800000037000000000000000000000000000000000000000000000000000000000000000000000000000000000000000000000000000000000000000000000000000000000000000000000000000000000000000000000000000004200000000000000000000000000000000000000000000000000000000000000000000000000000000000000000000000000000000000000000000000000000000000000000000003c0
theorem wX11_makeOwnAdvert {M : Nat} {N : Nat} {x0 : Nat} {x1 : Nat} {z0 z : St} (hM : mX11_makeOwnAdvert &&& M = mX11_makeOwnAdvert)  (h : zFr M z0 z) : zPw M z0 (fX11_makeOwnAdvert N x0 x1 z) := by
  unfold fX11_makeOwnAdvert
  exact zw_l (fun y1 => zw_d (fun a2 => zw_l (fun y3 => zw_d (fun a4 => zw_k (zw_l (fun v6 => zw_i (wX11_makeOwnAdvert_41 (ztr rfl hM)  h) (zw_i (wX11_makeOwnAdvert_41 (ztr rfl hM)  h) (zw_s h))))))))
def mX11_addressToFriend : Nat := 0x2000000000000000000000000000000000000000000000000000000000000000000000000000000000000000000000000000000000000000000000000000000000000000000000000000000000000000000000000000000000000000000000000000000000000000000b0000000000000000000000000000000000000000000000000000000000000000000000000000000000000000000000000000000000000000
theorem wX11_addressToFriend {M : Nat} {N : Nat} {x0 : Nat} {x1 : Nat} {x2 : Int32} {z0 z : St} (hM : mX11_addressToFriend &&& M = mX11_addressToFriend)  (h : zFr M z0 z) : zPw M z0 (fX11_addressToFriend N x0 x1 x2 z) := by
  unfold fX11_addressToFriend
  exact zw_k (zw_l (fun y2 => zw_k (zw_l (fun y4 => zw_d (fun a5 => zw_l (fun y6 => zw_d (fun a7 => zw_d (fun a8 => zw_c (wX1_portOn (ztr rfl hM)  h) (fun r9 z10 h1 => zw_o (zw_s h1) (fun a14 => zw_l (fun y15 => zw_d (fun a16 => zw_lI h1 (ztb hM rfl) (fun z17 h2 => zw_l (fun y18 => zw_d (fun a19 => zw_lI h2 (ztb hM rfl) (fun z20 h3 => zw_l (fun y21 => zw_c (wX1_nextNumber (ztr rfl hM)  h3) (fun r22 z23 h4 => zw_d (fun a26 => zw_lI h4 (ztb hM rfl) (fun z27 h5 => zw_s h5))))))))))))))))))))
def mX11_sendDue_127 : Nat := 0x0
theorem wX11_sendDue_127 {M : Nat} {N : Nat} {K7 : Nat → Nat → Option Nat → Int32 → St → Option (Int32 × St)} {K26 : Nat → Nat → Nat → Int32 → Int32 → Int32 → St → Option (Int32 × St)} {x0 : Nat} {x1 : Nat} {x2 : Nat} {x3 : Int32} {x4 : Int32} {x5 : Int32} {z0 z : St} (hM : mX11_sendDue_127 &&& M = mX11_sendDue_127)  (hK7 : ∀ a0 a1 a2 a3 a4, zFr M z0 a4 → zPw M z0 (K7 a0 a1 a2 a3 a4)) (hK26 : ∀ a0 a1 a2 a3 a4 a5 a6, zFr M z0 a6 → zPw M z0 (K26 a0 a1 a2 a3 a4 a5 a6)) (h : zFr M z0 z) : zPw M z0 (fX11_sendDue_127 N K7 K26 x0 x1 x2 x3 x4 x5 z) := by
  unfold fX11_sendDue_127
  exact zw_l (fun v1 => hK26 _ _ _ _ _ _ _ h)
def mX11_sendDue_112 : Nat := 0x80000000000000000000000000000000000000000000000000000000000000000000000000000000000000000000000000000000000000000000000000000000000000000000000000000000000000000000000000000000000000020000000000000000000000000000000000000000000000000000000000000000000000000000000000000000000000000000000000000000000000000000000000000000000000000
theorem wX11_sendDue_112 {M : Nat} {N : Nat} {K7 : Nat → Nat → Option Nat → Int32 → St → Option (Int32 × St)} {K26 : Nat → Nat → Nat → Int32 → Int32 → Int32 → St → Option (Int32 × St)} {x0 : Nat} {x1 : Nat} {x2 : Nat} {x3 : Int32} {x4 : Int32} {x5 : Int32} {z0 z : St} (hM : mX11_sendDue_112 &&& M = mX11_sendDue_112)  (hK7 : ∀ a0 a1 a2 a3 a4, zFr M z0 a4 → zPw M z0 (K7 a0 a1 a2 a3 a4)) (hK26 : ∀ a0 a1 a2 a3 a4 a5 a6, zFr M z0 a6 → zPw M z0 (K26 a0 a1 a2 a3 a4 a5 a6)) (h : zFr M z0 z) : zPw M z0 (fX11_sendDue_112 N K7 K26 x0 x1 x2 x3 x4 x5 z) := by
  unfold fX11_sendDue_112
  exact zw_c (wX9_setDue (ztr rfl hM)  h) (fun _ z2 h1 => wX11_sendDue_127 (ztr rfl hM) hK7 hK26 h1)
def mX11_sendDue_26b : Nat := 0x6085a0020000000000000000000000000000000000000000000000000000000000000000000000000000000000000000000000000000000000000000000000000000000000000000000000018200000000000000000000000000000002000000000000012000000000000007eff0000000000000000000000000000026000000000000000000000000000000000000000000000000000000000000000000000000000000000
theorem wX11_sendDue_26b {M : Nat} {N : Nat} {K7 : Nat → Nat → Option Nat → Int32 → St → Option (Int32 × St)} {K26 : Nat → Nat → Nat → Int32 → Int32 → Int32 → St → Option (Int32 × St)} {x0 : Nat} {x1 : Nat} {x2 : Nat} {x3 : Int32} {x4 : Int32} {x5 : Int32} {z0 z : St} (hM : mX11_sendDue_26b &&& M = mX11_sendDue_26b)  (hK7 : ∀ a0 a1 a2 a3 a4, zFr M z0 a4 → zPw M z0 (K7 a0 a1 a2 a3 a4)) (hK26 : ∀ a0 a1 a2 a3 a4 a5 a6, zFr M z0 a6 → zPw M z0 (K26 a0 a1 a2 a3 a4 a5 a6)) (h : zFr M z0 z) : zPw M z0 (fX11_sendDue_26b N K7 K26 x0 x1 x2 x3 x4 x5 z) := by
  unfold fX11_sendDue_26b
  exact zw_i (zw_l (fun v2 => hK7 _ _ _ _ _ h)) (zw_k (zw_k (zw_l (fun v5 => zw_i (wX11_sendDue_127 (ztr rfl hM) hK7 hK26 h) (zw_i (zw_l (fun y8 => zw_l (fun y9 => zw_d (fun a10 => zw_d (fun a11 => zw_c (wX0_putAdvert (ztr rfl hM)  h) (fun _ z13 h1 => zw_c (wX11_addressToFriend (ztr rfl hM)  h1) (fun r16 z17 h2 => zw_o (wX11_sendDue_112 (ztr rfl hM) hK7 hK26 h2) (fun a21 => zw_k (zw_l (fun y23 => zw_l (fun y24 => zw_d (fun a25 => zw_d (fun a26 => zw_c (wX11_hand (ztr rfl hM)  h2) (fun _ z28 h3 => wX11_sendDue_112 (ztr rfl hM) hK7 hK26 h3)))))))))))))) (wX11_sendDue_127 (ztr rfl hM) hK7 hK26 h))))))
def mX11_sendDue_26 : Nat := 0x6085a0020000000000000000000000000000000000000000000000000000000000000000000000000000000000000000000000000000000000000000000000000000000000000000000000018200000000000000000000000000000002000000000000012000000000000007eff0000000000000000000000000000026000000000000000000000000000000000000000000000000000000000000000000000000000000000
theorem wX11_sendDue_26 {M : Nat} {z0 : St} {N : Nat} {K7 : Nat → Nat → Option Nat → Int32 → St → Option (Int32 × St)}(hM : mX11_sendDue_26 &&& M = mX11_sendDue_26)  (hK7 : ∀ a0 a1 a2 a3 a4, zFr M z0 a4 → zPw M z0 (K7 a0 a1 a2 a3 a4)) : ∀ (n : Nat) (y0 : Nat) (y1 : Nat) (y2 : Nat) (y3 : Int32) (y4 : Int32) (y5 : Int32) (z : St), zFr M z0 z → zPw M z0 (fX11_sendDue_26 N K7 n y0 y1 y2 y3 y4 y5 z) := by
  intro n
  induction n with
  | zero => intro y0 y1 y2 y3 y4 y5 z h; exact zw_n
  | succ n ih => intro y0 y1 y2 y3 y4 y5 z h; exact wX11_sendDue_26b (ztr rfl hM) hK7 (fun _ _ _ _ _ _ _ h => ih _ _ _ _ _ _ _ h) h
def mX11_sendDue_7b : Nat := 0x6085a0020000000000000000000000000000000000000000000000000000000000000000000000000000000000000000000000000000000000000000000000000000000000000000000000018200000000000000000000000000000002000000000000012000000000000007eff0000000000000000000000000000026000000000000000000000000000000000000000000000000000000000000000000000000000000000
theorem wX11_sendDue_7b {M : Nat} {N : Nat} {K7 : Nat → Nat → Option Nat → Int32 → St → Option (Int32 × St)} {x0 : Nat} {x1 : Nat} {x2 : Option Nat} {x3 : Int32} {z0 z : St} (hM : mX11_sendDue_7b &&& M = mX11_sendDue_7b)  (hK7 : ∀ a0 a1 a2 a3 a4, zFr M z0 a4 → zPw M z0 (K7 a0 a1 a2 a3 a4)) (h : zFr M z0 z) : zPw M z0 (fX11_sendDue_7b N K7 x0 x1 x2 x3 z) := by
  unfold fX11_sendDue_7b
  exact zw_d (fun a1 => zw_i (zw_s h) (zw_k (zw_l (fun v4 => wX11_sendDue_26 (ztr rfl hM) hK7 _ _ _ _ _ _ _ _ h))))
def mX11_sendDue_7 : Nat := 0x6085a0020000000000000000000000000000000000000000000000000000000000000000000000000000000000000000000000000000000000000000000000000000000000000000000000018200000000000000000000000000000002000000000000012000000000000007eff0000000000000000000000000000026000000000000000000000000000000000000000000000000000000000000000000000000000000000
theorem wX11_sendDue_7 {M : Nat} {z0 : St} {N : Nat}(hM : mX11_sendDue_7 &&& M = mX11_sendDue_7)  : ∀ (n : Nat) (y0 : Nat) (y1 : Nat) (y2 : Option Nat) (y3 : Int32) (z : St), zFr M z0 z → zPw M z0 (fX11_sendDue_7 N n y0 y1 y2 y3 z) := by
  intro n
  induction n with
  | zero => intro y0 y1 y2 y3 z h; exact zw_n
  | succ n ih => intro y0 y1 y2 y3 z h; exact wX11_sendDue_7b (ztr rfl hM)  (fun _ _ _ _ _ h => ih _ _ _ _ _ h) h
def mX11_sendDue : Nat := 0x6085a0020000000000000000000000000000000000000000000000000000000000000000000000000000000000000000000000000000000000000000000000000000000000000000000000018200000000000000000000000000000002000000000000012000000000000007eff0000000000000000000000000000026000000000000000000000000000000000000000000000000000000000000000000000000000000000
theorem wX11_sendDue {M : Nat} {N : Nat} {x0 : Nat} {x1 : Nat} {z0 z : St} (hM : mX11_sendDue &&& M = mX11_sendDue)  (h : zFr M z0 z) : zPw M z0 (fX11_sendDue N x0 x1 z) := by
  unfold fX11_sendDue
  exact zw_l (fun y1 => wX11_sendDue_7 (ztr rfl hM)  _ _ _ _ _ _ h)
def mX11_sendGreetings_110 : Nat := 0x0
theorem wX11_sendGreetings_110 {M : Nat} {N : Nat} {K7 : Nat → Nat → Option Nat → Int32 → St → Option (Int32 × St)} {K53 : Nat → Nat → Option Nat → Int32 → Nat → Int32 → Int32 → St → Option (Int32 × St)} {x0 : Nat} {x1 : Nat} {x2 : Nat} {x3 : Int32} {x4 : Nat} {x5 : Int32} {x6 : Int32} {z0 z : St} (hM : mX11_sendGreetings_110 &&& M = mX11_sendGreetings_110)  (hK7 : ∀ a0 a1 a2 a3 a4, zFr M z0 a4 → zPw M z0 (K7 a0 a1 a2 a3 a4)) (hK53 : ∀ a0 a1 a2 a3 a4 a5 a6 a7, zFr M z0 a7 → zPw M z0 (K53 a0 a1 a2 a3 a4 a5 a6 a7)) (h : zFr M z0 z) : zPw M z0 (fX11_sendGreetings_110 N K7 K53 x0 x1 x2 x3 x4 x5 x6 z) := by
  unfold fX11_sendGreetings_110
  exact zw_l (fun v1 => hK53 _ _ _ _ _ _ _ _ h)
def mX11_sendGreetings_194 : Nat := 0x0
theorem wX11_sendGreetings_194 {M : Nat} {N : Nat} {K7 : Nat → Nat → Option Nat → Int32 → St → Option (Int32 × St)} {x0 : Nat} {x1 : Nat} {x2 : Option Nat} {x3 : Int32} {z0 z : St} (hM : mX11_sendGreetings_194 &&& M = mX11_sendGreetings_194)  (hK7 : ∀ a0 a1 a2 a3 a4, zFr M z0 a4 → zPw M z0 (K7 a0 a1 a2 a3 a4)) (h : zFr M z0 z) : zPw M z0 (fX11_sendGreetings_194 N K7 x0 x1 x2 x3 z) := by
  unfold fX11_sendGreetings_194
  exact zw_l (fun v1 => hK7 _ _ _ _ _ h)
def mX11_sendGreetings_53b : Nat := 0x600020020000000000000000000000000000000000000000000000000000000000000000000000000000000000000000000000000000000000000000000000000000000000000000000000018200000000000000000000000000000000000000000000000000000000000007eff0000000000000000000000000000026000000000000000000000000000000000000000000000000000000000000000000000000000000000
theorem wX11_sendGreetings_53b {M : Nat} {N : Nat} {K7 : Nat → Nat → Option Nat → Int32 → St → Option (Int32 × St)} {K53 : Nat → Nat → Option Nat → Int32 → Nat → Int32 → Int32 → St → Option (Int32 × St)} {x0 : Nat} {x1 : Nat} {x2 : Option Nat} {x3 : Int32} {x4 : Nat} {x5 : Int32} {x6 : Int32} {z0 z : St} (hM : mX11_sendGreetings_53b &&& M = mX11_sendGreetings_53b)  (hK7 : ∀ a0 a1 a2 a3 a4, zFr M z0 a4 → zPw M z0 (K7 a0 a1 a2 a3 a4)) (hK53 : ∀ a0 a1 a2 a3 a4 a5 a6 a7, zFr M z0 a7 → zPw M z0 (K53 a0 a1 a2 a3 a4 a5 a6 a7)) (h : zFr M z0 z) : zPw M z0 (fX11_sendGreetings_53b N K7 K53 x0 x1 x2 x3 x4 x5 x6 z) := by
  unfold fX11_sendGreetings_53b
  exact zw_d (fun a1 => zw_i (zw_l (fun y3 => zw_d (fun a4 => zw_c (wX7_put2 (ztr rfl hM)  h) (fun _ z6 h1 => zw_l (fun y9 => zw_d (fun a10 => zw_c (wX7_put2 (ztr rfl hM)  h1) (fun _ z12 h2 => zw_l (fun y15 => zw_d (fun a16 => zw_c (wX7_setLength (ztr rfl hM)  h2) (fun _ z18 h3 => zw_l (fun y21 => zw_d (fun a22 => zw_lI h3 (ztb hM rfl) (fun z23 h4 => zw_l (fun y24 => zw_d (fun a25 => zw_lI h4 (ztb hM rfl) (fun z26 h5 => zw_l (fun y27 => zw_c (wX1_nextNumber (ztr rfl hM)  h5) (fun r28 z29 h6 => zw_d (fun a32 => zw_lI h6 (ztb hM rfl) (fun z33 h7 => zw_l (fun y34 => zw_d (fun a35 => zw_c (wX11_putOn (ztr rfl hM)  h7) (fun _ z37 h8 => wX11_sendGreetings_194 (ztr rfl hM) hK7 h8))))))))))))))))))))))) (zw_k (zw_i (zw_l (fun y42 => zw_k (zw_d (fun a44 => zw_c (wX7_put2 (ztr rfl hM)  h) (fun _ z46 h9 => zw_l (fun v49 => wX11_sendGreetings_110 (ztr rfl hM) hK7 hK53 h9)))))) (wX11_sendGreetings_110 (ztr rfl hM) hK7 hK53 h))))
def mX11_sendGreetings_53 : Nat := 0x600020020000000000000000000000000000000000000000000000000000000000000000000000000000000000000000000000000000000000000000000000000000000000000000000000018200000000000000000000000000000000000000000000000000000000000007eff0000000000000000000000000000026000000000000000000000000000000000000000000000000000000000000000000000000000000000
theorem wX11_sendGreetings_53 {M : Nat} {z0 : St} {N : Nat} {K7 : Nat → Nat → Option Nat → Int32 → St → Option (Int32 × St)}(hM : mX11_sendGreetings_53 &&& M = mX11_sendGreetings_53)  (hK7 : ∀ a0 a1 a2 a3 a4, zFr M z0 a4 → zPw M z0 (K7 a0 a1 a2 a3 a4)) : ∀ (n : Nat) (y0 : Nat) (y1 : Nat) (y2 : Option Nat) (y3 : Int32) (y4 : Nat) (y5 : Int32) (y6 : Int32) (z : St), zFr M z0 z → zPw M z0 (fX11_sendGreetings_53 N K7 n y0 y1 y2 y3 y4 y5 y6 z) := by
  intro n
  induction n with
  | zero => intro y0 y1 y2 y3 y4 y5 y6 z h; exact zw_n
  | succ n ih => intro y0 y1 y2 y3 y4 y5 y6 z h; exact wX11_sendGreetings_53b (ztr rfl hM) hK7 (fun _ _ _ _ _ _ _ _ h => ih _ _ _ _ _ _ _ _ h) h
def mX11_sendGreetings_7b : Nat := 0x600020020000000000000000000000000000000000000000000000000000000000000000000000000000000000000000000000000000000000000000000000000000000000000000000000018200000000000000000000000000000000000000000000000000000000000007eff0000000000000000000000000000026000000000000000000000000000000000000000000000000000000000000000000000000000000000
theorem wX11_sendGreetings_7b {M : Nat} {N : Nat} {K7 : Nat → Nat → Option Nat → Int32 → St → Option (Int32 × St)} {x0 : Nat} {x1 : Nat} {x2 : Option Nat} {x3 : Int32} {z0 z : St} (hM : mX11_sendGreetings_7b &&& M = mX11_sendGreetings_7b)  (hK7 : ∀ a0 a1 a2 a3 a4, zFr M z0 a4 → zPw M z0 (K7 a0 a1 a2 a3 a4)) (h : zFr M z0 z) : zPw M z0 (fX11_sendGreetings_7b N K7 x0 x1 x2 x3 z) := by
  unfold fX11_sendGreetings_7b
  exact zw_i (zw_s h) (zw_k (zw_l (fun y3 => zw_d (fun a4 => zw_l (fun y5 => zw_d (fun a6 => zw_i (zw_l (fun y8 => zw_d (fun a9 => zw_c (wX7_begin (ztr rfl hM)  h) (fun _ z11 h1 => wX11_sendGreetings_53 (ztr rfl hM) hK7 _ _ _ _ _ _ _ _ _ h1)))) (wX11_sendGreetings_194 (ztr rfl hM) hK7 h)))))))
def mX11_sendGreetings_7 : Nat := 0x600020020000000000000000000000000000000000000000000000000000000000000000000000000000000000000000000000000000000000000000000000000000000000000000000000018200000000000000000000000000000000000000000000000000000000000007eff0000000000000000000000000000026000000000000000000000000000000000000000000000000000000000000000000000000000000000
theorem wX11_sendGreetings_7 {M : Nat} {z0 : St} {N : Nat}(hM : mX11_sendGreetings_7 &&& M = mX11_sendGreetings_7)  : ∀ (n : Nat) (y0 : Nat) (y1 : Nat) (y2 : Option Nat) (y3 : Int32) (z : St), zFr M z0 z → zPw M z0 (fX11_sendGreetings_7 N n y0 y1 y2 y3 z) := by
  intro n
  induction n with
  | zero => intro y0 y1 y2 y3 z h; exact zw_n
  | succ n ih => intro y0 y1 y2 y3 z h; exact wX11_sendGreetings_7b (ztr rfl hM)  (fun _ _ _ _ _ h => ih _ _ _ _ _ h) h
def mX11_sendGreetings : Nat := 0x600020020000000000000000000000000000000000000000000000000000000000000000000000000000000000000000000000000000000000000000000000000000000000000000000000018200000000000000000000000000000000000000000000000000000000000007eff0000000000000000000000000000026000000000000000000000000000000000000000000000000000000000000000000000000000000000
theorem wX11_sendGreetings {M : Nat} {N : Nat} {x0 : Nat} {x1 : Nat} {z0 z : St} (hM : mX11_sendGreetings &&& M = mX11_sendGreetings)  (h : zFr M z0 z) : zPw M z0 (fX11_sendGreetings N x0 x1 z) := by
  unfold fX11_sendGreetings
  exact zw_l (fun y1 => wX11_sendGreetings_7 (ztr rfl hM)  _ _ _ _ _ _ h)
def mX11_sendThanks_98 : Nat := 0x0
theorem wX11_sendThanks_98 {M : Nat} {N : Nat} {K7 : Nat → Nat → Option Nat → Int32 → St → Option (Int32 × St)} {x0 : Nat} {x1 : Nat} {x2 : Nat} {x3 : Int32} {z0 z : St} (hM : mX11_sendThanks_98 &&& M = mX11_sendThanks_98)  (hK7 : ∀ a0 a1 a2 a3 a4, zFr M z0 a4 → zPw M z0 (K7 a0 a1 a2 a3 a4)) (h : zFr M z0 z) : zPw M z0 (fX11_sendThanks_98 N K7 x0 x1 x2 x3 z) := by
  unfold fX11_sendThanks_98
  exact zw_l (fun v1 => hK7 _ _ _ _ _ h)
def mX11_sendThanks_7b : Nat := 0x6005a0020000000000000000000000000000000000000000000000000000000000000000000000000000000000000000000000000000000000000000000000000000000000000000000000018200000000000000000000000000000020000000000000012000000000000007eff0000000000000000000000000000026000000000000000000000000000000000000000000000000000000000000000000000000000000000
theorem wX11_sendThanks_7b {M : Nat} {N : Nat} {K7 : Nat → Nat → Option Nat → Int32 → St → Option (Int32 × St)} {x0 : Nat} {x1 : Nat} {x2 : Option Nat} {x3 : Int32} {z0 z : St} (hM : mX11_sendThanks_7b &&& M = mX11_sendThanks_7b)  (hK7 : ∀ a0 a1 a2 a3 a4, zFr M z0 a4 → zPw M z0 (K7 a0 a1 a2 a3 a4)) (h : zFr M z0 z) : zPw M z0 (fX11_sendThanks_7b N K7 x0 x1 x2 x3 z) := by
  unfold fX11_sendThanks_7b
  exact zw_d (fun a1 => zw_i (zw_lI h (ztb hM rfl) (fun z3 h1 => zw_s h1)) (zw_l (fun y4 => zw_d (fun a5 => zw_c (wX7_begin (ztr rfl hM)  h) (fun _ z7 h2 => zw_l (fun y10 => zw_k (zw_d (fun a12 => zw_c (wX7_put2 (ztr rfl hM)  h2) (fun _ z14 h3 => zw_l (fun y17 => zw_k (zw_d (fun a19 => zw_c (wX7_put4 (ztr rfl hM)  h3) (fun _ z21 h4 => zw_k (zw_c (wX11_addressToFriend (ztr rfl hM)  h4) (fun r25 z26 h5 => zw_o (wX11_sendThanks_98 (ztr rfl hM) hK7 h5) (fun a30 => zw_k (zw_k (zw_l (fun y33 => zw_l (fun y34 => zw_d (fun a35 => zw_d (fun a36 => zw_c (wX11_hand (ztr rfl hM)  h5) (fun _ z38 h6 => wX11_sendThanks_98 (ztr rfl hM) hK7 h6)))))))))))))))))))))))
def mX11_sendThanks_7 : Nat := 0x6005a0020000000000000000000000000000000000000000000000000000000000000000000000000000000000000000000000000000000000000000000000000000000000000000000000018200000000000000000000000000000020000000000000012000000000000007eff0000000000000000000000000000026000000000000000000000000000000000000000000000000000000000000000000000000000000000
theorem wX11_sendThanks_7 {M : Nat} {z0 : St} {N : Nat}(hM : mX11_sendThanks_7 &&& M = mX11_sendThanks_7)  : ∀ (n : Nat) (y0 : Nat) (y1 : Nat) (y2 : Option Nat) (y3 : Int32) (z : St), zFr M z0 z → zPw M z0 (fX11_sendThanks_7 N n y0 y1 y2 y3 z) := by
  intro n
  induction n with
  | zero => intro y0 y1 y2 y3 z h; exact zw_n
  | succ n ih => intro y0 y1 y2 y3 z h; exact wX11_sendThanks_7b (ztr rfl hM)  (fun _ _ _ _ _ h => ih _ _ _ _ _ h) h
def mX11_sendThanks : Nat := 0x6005a0020000000000000000000000000000000000000000000000000000000000000000000000000000000000000000000000000000000000000000000000000000000000000000000000018200000000000000000000000000000020000000000000012000000000000007eff0000000000000000000000000000026000000000000000000000000000000000000000000000000000000000000000000000000000000000
theorem wX11_sendThanks {M : Nat} {N : Nat} {x0 : Nat} {x1 : Nat} {z0 z : St} (hM : mX11_sendThanks &&& M = mX11_sendThanks)  (h : zFr M z0 z) : zPw M z0 (fX11_sendThanks N x0 x1 z) := by
  unfold fX11_sendThanks
  exact zw_l (fun y1 => wX11_sendThanks_7 (ztr rfl hM)  _ _ _ _ _ _ h)
def mX11_doRouter_97 : Nat := 0x0
theorem wX11_doRouter_97 {M : Nat} {N : Nat} {K47 : Nat → Nat → Nat → Option Nat → Int32 → St → Option (Int32 × St)} {x0 : Nat} {x1 : Nat} {x2 : Nat} {x3 : Nat} {x4 : Int32} {z0 z : St} (hM : mX11_doRouter_97 &&& M = mX11_doRouter_97)  (hK47 : ∀ a0 a1 a2 a3 a4 a5, zFr M z0 a5 → zPw M z0 (K47 a0 a1 a2 a3 a4 a5)) (h : zFr M z0 z) : zPw M z0 (fX11_doRouter_97 N K47 x0 x1 x2 x3 x4 z) := by
  unfold fX11_doRouter_97
  exact zw_l (fun v1 => hK47 _ _ _ _ _ _ h)
def mX11_doRouter_147 : Nat := 0xfc000000000000000000000000000000000000000000000000000000000000000000000000000000000000000000000000000000000000000000000000000000000000000000000000000000000000000000000000000000000000000000000000000000000000000000000000000000000000000000000000000000000000000000000000000000000000000000000000000000000000000000000000000000200
theorem wX11_doRouter_147 {M : Nat} {N : Nat} {x0 : Nat} {x1 : Nat} {x3 : Option Nat} {z0 z : St} (hM : mX11_doRouter_147 &&& M = mX11_doRouter_147)  (h : zFr M z0 z) : zPw M z0 (fX11_doRouter_147 N x0 x1 x3 z) := by
  unfold fX11_doRouter_147
  exact zw_d (fun a1 => zw_i (zw_s h) (zw_c (wX0_findWays (ztr rfl hM)  h) (fun _ z4 h1 => zw_s h1)))
def mX11_doRouter_135 : Nat := 0x6085a002fc00000000000000000000000000000000000000000000000000000000000000000000000000000000000000000000000000000000000000000000000000000000000000000000018200000000000000000000000000000002000000000000012000000000000007eff0000000000000000000000000000026000000000000000000000000000000000000000000000000000000000000000000000000000000200
theorem wX11_doRouter_135 {M : Nat} {N : Nat} {x0 : Nat} {x1 : Nat} {x2 : Nat} {x3 : Option Nat} {z0 z : St} (hM : mX11_doRouter_135 &&& M = mX11_doRouter_135)  (h : zFr M z0 z) : zPw M z0 (fX11_doRouter_135 N x0 x1 x2 x3 z) := by
  unfold fX11_doRouter_135
  exact zw_i (wX11_doRouter_147 (ztr rfl hM)  h) (zw_c (wX11_sendDue (ztr rfl hM)  h) (fun _ z3 h1 => wX11_doRouter_147 (ztr rfl hM)  h1))
def mX11_doRouter_123 : Nat := 0x6085a002fc00000000000000000000000000000000000000000000000000000000000000000000000000000000000000000000000000000000000000000000000000000000000000000000018200000000000000000000000000000022000000000000012000000000000007eff0000000000000000000000000000026000000000000000000000000000000000000000000000000000000000000000000000000000000200
theorem wX11_doRouter_123 {M : Nat} {N : Nat} {x0 : Nat} {x1 : Nat} {x2 : Nat} {x3 : Option Nat} {z0 z : St} (hM : mX11_doRouter_123 &&& M = mX11_doRouter_123)  (h : zFr M z0 z) : zPw M z0 (fX11_doRouter_123 N x0 x1 x2 x3 z) := by
  unfold fX11_doRouter_123
  exact zw_i (wX11_doRouter_135 (ztr rfl hM)  h) (zw_c (wX11_sendThanks (ztr rfl hM)  h) (fun _ z3 h1 => wX11_doRouter_135 (ztr rfl hM)  h1))
def mX11_doRouter_47b : Nat := 0x6085a002ff70000000000000000000000000000000000000000000000000000000000000000000000000000000000000000000000000000000000000000000000000000000000000000000018200000000000000000000000000000062000000000000012000000000000007eff00000000000000000000000000000260000000000000000000000000000000000000000000000000000000000000000000000000000003c0
theorem wX11_doRouter_47b {M : Nat} {N : Nat} {K47 : Nat → Nat → Nat → Option Nat → Int32 → St → Option (Int32 × St)} {x0 : Nat} {x1 : Nat} {x2 : Nat} {x3 : Option Nat} {x4 : Int32} {z0 z : St} (hM : mX11_doRouter_47b &&& M = mX11_doRouter_47b)  (hK47 : ∀ a0 a1 a2 a3 a4 a5, zFr M z0 a5 → zPw M z0 (K47 a0 a1 a2 a3 a4 a5)) (h : zFr M z0 z) : zPw M z0 (fX11_doRouter_47b N K47 x0 x1 x2 x3 x4 z) := by
  unfold fX11_doRouter_47b
  exact zw_i (zw_c (wX11_makeOwnAdvert (ztr rfl hM)  h) (fun _ z3 h1 => zw_i (wX11_doRouter_123 (ztr rfl hM)  h1) (zw_c (wX11_sendGreetings (ztr rfl hM)  h1) (fun _ z8 h2 => wX11_doRouter_123 (ztr rfl hM)  h2)))) (zw_d (fun a11 => zw_k (zw_i (wX11_doRouter_97 (ztr rfl hM) hK47 h) (zw_k (zw_i (zw_c (wX0_takeOut (ztr rfl hM)  h) (fun _ z17 h3 => zw_c (wX9_clearDueOf (ztr rfl hM)  h3) (fun _ z21 h4 => wX11_doRouter_97 (ztr rfl hM) hK47 h4))) (wX11_doRouter_97 (ztr rfl hM) hK47 h))))))
def mX11_doRouter_47 : Nat := 0x6085a002ff70000000000000000000000000000000000000000000000000000000000000000000000000000000000000000000000000000000000000000000000000000000000000000000018200000000000000000000000000000062000000000000012000000000000007eff00000000000000000000000000000260000000000000000000000000000000000000000000000000000000000000000000000000000003c0
theorem wX11_doRouter_47 {M : Nat} {z0 : St} {N : Nat}(hM : mX11_doRouter_47 &&& M = mX11_doRouter_47)  : ∀ (n : Nat) (y0 : Nat) (y1 : Nat) (y2 : Nat) (y3 : Option Nat) (y4 : Int32) (z : St), zFr M z0 z → zPw M z0 (fX11_doRouter_47 N n y0 y1 y2 y3 y4 z) := by
  intro n
  induction n with
  | zero => intro y0 y1 y2 y3 y4 z h; exact zw_n
  | succ n ih => intro y0 y1 y2 y3 y4 z h; exact wX11_doRouter_47b (ztr rfl hM)  (fun _ _ _ _ _ _ h => ih _ _ _ _ _ _ h) h
def mX11_doRouter_39 : Nat := 0x60bda002ff70000000000000000000000000000000000000000000000000000000000000000000000000000000000000000000000000000000000000000000000000000000000000000000018200000000000000000000000000000062200000000000012000000000000007eff00000000000000000000000000000260000000000000000000000000000000000000000000000000000000000000000000000000000003c0
theorem wX11_doRouter_39 {M : Nat} {N : Nat} {x0 : Nat} {x1 : Nat} {x2 : Nat} {x3 : Option Nat} {z0 z : St} (hM : mX11_doRouter_39 &&& M = mX11_doRouter_39)  (h : zFr M z0 z) : zPw M z0 (fX11_doRouter_39 N x0 x1 x2 x3 z) := by
  unfold fX11_doRouter_39
  exact zw_c (wX11_forgetSilent (ztr rfl hM)  h) (fun _ z2 h1 => wX11_doRouter_47 (ztr rfl hM)  _ _ _ _ _ _ _ h1)
def mX11_doRouter : Nat := 0x60bda002ff700000000000000000000000000000000000000000000000000000000000000000000000000000000000000000000000000000000000000000000000000000000000000000000182000000000000000000000000000000e2200000000000012000000000000007eff00000000000000000000000000000260000000000000000000000000000000000000000000000000000000000000000000000000000003c0
theorem wX11_doRouter {M : Nat} {N : Nat} {x0 : Nat} {x1 : Nat} {z0 z : St} (hM : mX11_doRouter &&& M = mX11_doRouter)  (h : zFr M z0 z) : zPw M z0 (fX11_doRouter N x0 x1 z) := by
  unfold fX11_doRouter
  exact zw_l (fun y1 => zw_d (fun a2 => zw_l (fun y3 => zw_i (wX11_doRouter_39 (ztr rfl hM)  h) (zw_lI h (ztb hM rfl) (fun z5 h1 => zw_lI h1 (ztb hM rfl) (fun z6 h2 => zw_d (fun a7 => zw_lI h2 (ztb hM rfl) (fun z8 h3 => wX11_doRouter_39 (ztr rfl hM)  h3))))))))
def mX11_addressSegment_23 : Nat := 0x2002000000000000000000000000000000000000000000000000000000000000000000000000000000000000000000000000000000000000000000000000000000000000000000000000000000000000000000000000000000000000000000000000000000000000000020b0000000000000000000000000000000000000000000000000000000000000000000000000000000000000000000000000000000000000000
theorem wX11_addressSegment_23 {M : Nat} {N : Nat} {x0 : Nat} {x1 : Nat} {x2 : Nat} {s0 : Option Nat} {s1 : Int32} {z0 z : St} (hM : mX11_addressSegment_23 &&& M = mX11_addressSegment_23)  (h : zFr M z0 z) : zPw M z0 (fX11_addressSegment_23 N x0 x1 x2 s0 s1 z) := by
  unfold fX11_addressSegment_23
  exact zw_d (fun a1 => zw_lI h (ztb hM rfl) (fun z2 h1 => zw_l (fun y3 => zw_d (fun a4 => zw_lI h1 (ztb hM rfl) (fun z5 h2 => zw_l (fun y6 => zw_d (fun a7 => zw_c (wX7_put2 (ztr rfl hM)  h2) (fun _ z9 h3 => zw_l (fun y12 => zw_d (fun a13 => zw_c (wX7_put2 (ztr rfl hM)  h3) (fun _ z15 h4 => zw_l (fun y18 => zw_c (wX1_nextNumber (ztr rfl hM)  h4) (fun r19 z20 h5 => zw_d (fun a23 => zw_lI h5 (ztb hM rfl) (fun z24 h6 => zw_l (fun y25 => zw_l (fun y26 => zw_d (fun a27 => zw_d (fun a28 => zw_lI h6 (ztb hM rfl) (fun z29 h7 => zw_s h7))))))))))))))))))))
def mX11_addressSegment : Nat := 0x2002000000000000000000000000000000000000000000000000000000000000000000000000000000000000000000000000000000000000000000000000000000000000000000000000000000000000000000000000000000000000000000000000000000000000000020b0000000000000000000000000000000000000000000000000000000000000000000000000000000000000000000000000000000000000000
theorem wX11_addressSegment {M : Nat} {N : Nat} {x0 : Nat} {x1 : Nat} {x2 : Nat} {z0 z : St} (hM : mX11_addressSegment &&& M = mX11_addressSegment)  (h : zFr M z0 z) : zPw M z0 (fX11_addressSegment N x0 x1 x2 z) := by
  unfold fX11_addressSegment
  exact zw_k (zw_l (fun y2 => zw_l (fun y3 => zw_o (wX11_addressSegment_23 (ztr rfl hM)  h) (fun a5 => wX11_addressSegment_23 (ztr rfl hM)  h))))
def mX11_nextWritten_153 : Nat := 0x0
theorem wX11_nextWritten_153 {M : Nat} {N : Nat} {K5 : Nat → Nat → Int32 → St → Option (Int32 × St)} {x0 : Nat} {x1 : Nat} {x2 : Int32} {z0 z : St} (hM : mX11_nextWritten_153 &&& M = mX11_nextWritten_153)  (hK5 : ∀ a0 a1 a2 a3, zFr M z0 a3 → zPw M z0 (K5 a0 a1 a2 a3)) (h : zFr M z0 z) : zPw M z0 (fX11_nextWritten_153 N K5 x0 x1 x2 z) := by
  unfold fX11_nextWritten_153
  exact zw_l (fun v1 => hK5 _ _ _ _ h)
def mX11_nextWritten_31 : Nat := 0x80000000000000000000000000000000000
theorem wX11_nextWritten_31 {M : Nat} {N : Nat} {K5 : Nat → Nat → Int32 → St → Option (Int32 × St)} {x0 : Nat} {x1 : Nat} {x2 : Int32} {z0 z : St} (hM : mX11_nextWritten_31 &&& M = mX11_nextWritten_31)  (hK5 : ∀ a0 a1 a2 a3, zFr M z0 a3 → zPw M z0 (K5 a0 a1 a2 a3)) (h : zFr M z0 z) : zPw M z0 (fX11_nextWritten_31 N K5 x0 x1 x2 z) := by
  unfold fX11_nextWritten_31
  exact zw_k (zw_l (fun v2 => zw_k (zw_l (fun y4 => zw_d (fun a5 => zw_i (wX11_nextWritten_153 (ztr rfl hM) hK5 h) (zw_i (zw_l (fun v8 => zw_lI h (ztb hM rfl) (fun z9 h1 => zw_k (zw_i (zw_k (zw_l (fun v13 => zw_k (zw_s h1)))) (zw_k (zw_s h1)))))) (wX11_nextWritten_153 (ztr rfl hM) hK5 h)))))))
def mX11_nextWritten_5b : Nat := 0xc0000000000000000000000000000000000
theorem wX11_nextWritten_5b {M : Nat} {N : Nat} {K5 : Nat → Nat → Int32 → St → Option (Int32 × St)} {x0 : Nat} {x1 : Nat} {x2 : Int32} {z0 z : St} (hM : mX11_nextWritten_5b &&& M = mX11_nextWritten_5b)  (hK5 : ∀ a0 a1 a2 a3, zFr M z0 a3 → zPw M z0 (K5 a0 a1 a2 a3)) (h : zFr M z0 z) : zPw M z0 (fX11_nextWritten_5b N K5 x0 x1 x2 z) := by
  unfold fX11_nextWritten_5b
  exact zw_i (zw_s h) (zw_i (wX11_nextWritten_31 (ztr rfl hM) hK5 h) (zw_lI h (ztb hM rfl) (fun z3 h1 => zw_lI h1 (ztb hM rfl) (fun z4 h2 => wX11_nextWritten_31 (ztr rfl hM) hK5 h2))))
def mX11_nextWritten_5 : Nat := 0xc0000000000000000000000000000000000
theorem wX11_nextWritten_5 {M : Nat} {z0 : St} {N : Nat}(hM : mX11_nextWritten_5 &&& M = mX11_nextWritten_5)  : ∀ (n : Nat) (y0 : Nat) (y1 : Nat) (y2 : Int32) (z : St), zFr M z0 z → zPw M z0 (fX11_nextWritten_5 N n y0 y1 y2 z) := by
  intro n
  induction n with
  | zero => intro y0 y1 y2 z h; exact zw_n
  | succ n ih => intro y0 y1 y2 z h; exact wX11_nextWritten_5b (ztr rfl hM)  (fun _ _ _ _ h => ih _ _ _ _ h) h
def mX11_nextWritten : Nat := 0xc0000000000000000000000000000000000
theorem wX11_nextWritten {M : Nat} {N : Nat} {x0 : Nat} {x1 : Nat} {z0 z : St} (hM : mX11_nextWritten &&& M = mX11_nextWritten)  (h : zFr M z0 z) : zPw M z0 (fX11_nextWritten N x0 x1 z) := by
  unfold fX11_nextWritten
  exact zw_l (fun v1 => wX11_nextWritten_5 (ztr rfl hM)  _ _ _ _ _ h)
def mX11_takeByte : Nat := 0x100000000000000000000000000000000000000000000000000000000000000000000000000000000000000000000000000000000000000000c00000000000020000000000000000c0000000000000000000000000000000000
theorem wX11_takeByte {M : Nat} {N : Nat} {x0 : Nat} {x1 : Nat} {z0 z : St} (hM : mX11_takeByte &&& M = mX11_takeByte)  (h : zFr M z0 z) : zPw M z0 (fX11_takeByte N x0 x1 z) := by
  unfold fX11_takeByte
  exact zw_l (fun y1 => zw_d (fun a2 => zw_c (wX3_takeByte (ztr rfl hM)  h) (fun r3 z4 h1 => zw_c (wX11_nextWritten (ztr rfl hM)  h1) (fun r7 z8 h2 => zw_i (zw_s h2) (zw_lI h2 (ztb hM rfl) (fun z12 h3 => zw_s h3))))))
def mX11_settle_106 : Nat := 0x6f00000000000000000000000000000000
theorem wX11_settle_106 {M : Nat} {N : Nat} {x1 : Nat} {z0 z : St} (hM : mX11_settle_106 &&& M = mX11_settle_106)  (h : zFr M z0 z) : zPw M z0 (fX11_settle_106 N x1 z) := by
  unfold fX11_settle_106
  exact zw_c (wX2_setUnused (ztr rfl hM)  h) (fun _ z2 h1 => zw_s h1)
def mX11_settle_68 : Nat := 0x10000000000000000000000000000000000000000000000000000000000000000000000000000000000000000000000000000000000000000000000000000006f00000000000000000000000000000000
theorem wX11_settle_68 {M : Nat} {N : Nat} {x0 : Nat} {x1 : Nat} {x2 : Nat} {z0 z : St} (hM : mX11_settle_68 &&& M = mX11_settle_68)  (h : zFr M z0 z) : zPw M z0 (fX11_settle_68 N x0 x1 x2 z) := by
  unfold fX11_settle_68
  exact zw_c (wX3_armProbe (ztr rfl hM)  h) (fun _ z2 h1 => zw_i (zw_i (wX11_settle_106 (ztr rfl hM)  h1) (zw_c (wX3_isDead (ztr rfl hM)  h1) (fun r7 z8 h2 => zw_i (zw_s h2) (zw_i (zw_s h2) (wX11_settle_106 (ztr rfl hM)  h2))))) (zw_s h1))
def mX11_settle_54 : Nat := 0x2000000000000000010000000000000000000000000000000000000000000000000000000000000000000000000000000000000000000000000000000000000000000000000000006f00000000000000000000000000000000
theorem wX11_settle_54 {M : Nat} {N : Nat} {x0 : Nat} {x1 : Nat} {x2 : Option Nat} {z0 z : St} (hM : mX11_settle_54 &&& M = mX11_settle_54)  (h : zFr M z0 z) : zPw M z0 (fX11_settle_54 N x0 x1 x2 z) := by
  unfold fX11_settle_54
  exact zw_d (fun a1 => zw_l (fun y2 => zw_d (fun a3 => zw_i (wX11_settle_68 (ztr rfl hM)  h) (zw_c (wX11_stir (ztr rfl hM)  h) (fun _ z6 h1 => wX11_settle_68 (ztr rfl hM)  h1)))))
def mX11_settle_14b : Nat := 0x120000000000000000100000000000000000000000000000000000000000000000000000000000000000000000000000000000000000000000c00000000000020000000000000000e6f00000000000000000000000000000000
theorem wX11_settle_14b {M : Nat} {N : Nat} {K14 : Nat → Nat → Option Nat → Int32 → St → Option (Int32 × St)} {x0 : Nat} {x1 : Nat} {x2 : Option Nat} {x3 : Int32} {z0 z : St} (hM : mX11_settle_14b &&& M = mX11_settle_14b)  (hK14 : ∀ a0 a1 a2 a3 a4, zFr M z0 a4 → zPw M z0 (K14 a0 a1 a2 a3 a4)) (h : zFr M z0 z) : zPw M z0 (fX11_settle_14b N K14 x0 x1 x2 x3 z) := by
  unfold fX11_settle_14b
  exact zw_i (wX11_settle_54 (ztr rfl hM)  h) (zw_d (fun a2 => zw_l (fun y3 => zw_d (fun a4 => zw_i (wX11_settle_54 (ztr rfl hM)  h) (zw_c (wX11_takeByte (ztr rfl hM)  h) (fun r6 z7 h1 => zw_lI h1 (ztb hM rfl) (fun z10 h2 => zw_l (fun v11 => hK14 _ _ _ _ _ h2))))))))
def mX11_settle_14 : Nat := 0x120000000000000000100000000000000000000000000000000000000000000000000000000000000000000000000000000000000000000000c00000000000020000000000000000e6f00000000000000000000000000000000
theorem wX11_settle_14 {M : Nat} {z0 : St} {N : Nat}(hM : mX11_settle_14 &&& M = mX11_settle_14)  : ∀ (n : Nat) (y0 : Nat) (y1 : Nat) (y2 : Option Nat) (y3 : Int32) (z : St), zFr M z0 z → zPw M z0 (fX11_settle_14 N n y0 y1 y2 y3 z) := by
  intro n
  induction n with
  | zero => intro y0 y1 y2 y3 z h; exact zw_n
  | succ n ih => intro y0 y1 y2 y3 z h; exact wX11_settle_14b (ztr rfl hM)  (fun _ _ _ _ _ h => ih _ _ _ _ _ h) h
def mX11_settle : Nat := 0x120000000000000000100000000000000000000000000000000000000000000000000000000000000000000000000000000000000000000000c00000000000020000000000000000e6f00000000000000000000000000000000
theorem wX11_settle {M : Nat} {N : Nat} {x0 : Nat} {x1 : Nat} {z0 z : St} (hM : mX11_settle &&& M = mX11_settle)  (h : zFr M z0 z) : zPw M z0 (fX11_settle N x0 x1 z) := by
  unfold fX11_settle
  exact zw_l (fun y1 => zw_i (wX11_settle_54 (ztr rfl hM)  h) (wX11_settle_14 (ztr rfl hM)  _ _ _ _ _ _ h))
def mX11_doHost_97 : Nat := 0x0
theorem wX11_doHost_97 {M : Nat} {N : Nat} {K2 : Nat → Nat → Int32 → St → Option (Int32 × St)} {x0 : Nat} {x1 : Nat} {x2 : Int32} {z0 z : St} (hM : mX11_doHost_97 &&& M = mX11_doHost_97)  (hK2 : ∀ a0 a1 a2 a3, zFr M z0 a3 → zPw M z0 (K2 a0 a1 a2 a3)) (h : zFr M z0 z) : zPw M z0 (fX11_doHost_97 N K2 x0 x1 x2 z) := by
  unfold fX11_doHost_97
  exact zw_l (fun v1 => hK2 _ _ _ _ h)
def mX11_doHost_92 : Nat := 0x120000000000000000100000000000000000000000000000000000000000000000000000000000000000000000000000000000000000000000c00000000000020000000000000000e6f00000000000000000000000000000000
theorem wX11_doHost_92 {M : Nat} {N : Nat} {K2 : Nat → Nat → Int32 → St → Option (Int32 × St)} {x0 : Nat} {x1 : Nat} {x2 : Int32} {x3 : Nat} {z0 z : St} (hM : mX11_doHost_92 &&& M = mX11_doHost_92)  (hK2 : ∀ a0 a1 a2 a3, zFr M z0 a3 → zPw M z0 (K2 a0 a1 a2 a3)) (h : zFr M z0 z) : zPw M z0 (fX11_doHost_92 N K2 x0 x1 x2 x3 z) := by
  unfold fX11_doHost_92
  exact zw_c (wX11_settle (ztr rfl hM)  h) (fun _ z2 h1 => wX11_doHost_97 (ztr rfl hM) hK2 h1)
def mX11_doHost_44b : Nat := 0x6005a00200000000000000000000000000000000000000000000000000000000000000000000000000000000000000000000000000000000000000000000000000000000000000000000000992000000000000001c1000000000000000000000000000012000000000000007eff00000000000002480000000000000260000000000000000c0000000000003e210000000000000e6f00000000000000000000000000000000
theorem wX11_doHost_44b {M : Nat} {N : Nat} {K2 : Nat → Nat → Int32 → St → Option (Int32 × St)} {K44 : Nat → Nat → Int32 → Nat → Nat → Int32 → St → Option (Int32 × St)} {x0 : Nat} {x1 : Nat} {x2 : Int32} {x3 : Nat} {x4 : Nat} {x5 : Int32} {z0 z : St} (hM : mX11_doHost_44b &&& M = mX11_doHost_44b)  (hK2 : ∀ a0 a1 a2 a3, zFr M z0 a3 → zPw M z0 (K2 a0 a1 a2 a3)) (hK44 : ∀ a0 a1 a2 a3 a4 a5 a6, zFr M z0 a6 → zPw M z0 (K44 a0 a1 a2 a3 a4 a5 a6)) (h : zFr M z0 z) : zPw M z0 (fX11_doHost_44b N K2 K44 x0 x1 x2 x3 x4 x5 z) := by
  unfold fX11_doHost_44b
  exact zw_i (wX11_doHost_92 (ztr rfl hM) hK2 h) (zw_l (fun y2 => zw_d (fun a3 => zw_c (wX3_makeNext (ztr rfl hM)  h) (fun r4 z5 h1 => zw_i (zw_c (wX11_addressSegment (ztr rfl hM)  h1) (fun _ z10 h2 => zw_l (fun y13 => zw_d (fun a14 => zw_c (wX11_sendOff (ztr rfl hM)  h2) (fun _ z16 h3 => zw_l (fun v19 => hK44 _ _ _ _ _ _ _ h3)))))) (wX11_doHost_92 (ztr rfl hM) hK2 h1)))))
def mX11_doHost_44 : Nat := 0x6005a00200000000000000000000000000000000000000000000000000000000000000000000000000000000000000000000000000000000000000000000000000000000000000000000000992000000000000001c1000000000000000000000000000012000000000000007eff00000000000002480000000000000260000000000000000c0000000000003e210000000000000e6f00000000000000000000000000000000
theorem wX11_doHost_44 {M : Nat} {z0 : St} {N : Nat} {K2 : Nat → Nat → Int32 → St → Option (Int32 × St)}(hM : mX11_doHost_44 &&& M = mX11_doHost_44)  (hK2 : ∀ a0 a1 a2 a3, zFr M z0 a3 → zPw M z0 (K2 a0 a1 a2 a3)) : ∀ (n : Nat) (y0 : Nat) (y1 : Nat) (y2 : Int32) (y3 : Nat) (y4 : Nat) (y5 : Int32) (z : St), zFr M z0 z → zPw M z0 (fX11_doHost_44 N K2 n y0 y1 y2 y3 y4 y5 z) := by
  intro n
  induction n with
  | zero => intro y0 y1 y2 y3 y4 y5 z h; exact zw_n
  | succ n ih => intro y0 y1 y2 y3 y4 y5 z h; exact wX11_doHost_44b (ztr rfl hM) hK2 (fun _ _ _ _ _ _ _ h => ih _ _ _ _ _ _ _ h) h
def mX11_doHost_2b : Nat := 0x6005a00200000000000000000000000000000000000000000000000000000000000000000000000000000000000000000000000000000000000000000000000000000000000000000000000992000000000000001c7000000000000000000000000000012000000000000007eff00000000000002480000000000000260000000000000000c0000000000003e210000000000000e6f00000000000000000000000000000000
theorem wX11_doHost_2b {M : Nat} {N : Nat} {K2 : Nat → Nat → Int32 → St → Option (Int32 × St)} {x0 : Nat} {x1 : Nat} {x2 : Int32} {z0 z : St} (hM : mX11_doHost_2b &&& M = mX11_doHost_2b)  (hK2 : ∀ a0 a1 a2 a3, zFr M z0 a3 → zPw M z0 (K2 a0 a1 a2 a3)) (h : zFr M z0 z) : zPw M z0 (fX11_doHost_2b N K2 x0 x1 x2 z) := by
  unfold fX11_doHost_2b
  exact zw_i (zw_s h) (zw_k (zw_l (fun y3 => zw_d (fun a4 => zw_i (zw_l (fun y6 => zw_d (fun a7 => zw_c (wX3_ring (ztr rfl hM)  h) (fun _ z9 h1 => wX11_doHost_44 (ztr rfl hM) hK2 _ _ _ _ _ _ _ _ h1)))) (wX11_doHost_97 (ztr rfl hM) hK2 h)))))
def mX11_doHost_2 : Nat := 0x6005a00200000000000000000000000000000000000000000000000000000000000000000000000000000000000000000000000000000000000000000000000000000000000000000000000992000000000000001c7000000000000000000000000000012000000000000007eff00000000000002480000000000000260000000000000000c0000000000003e210000000000000e6f00000000000000000000000000000000
theorem wX11_doHost_2 {M : Nat} {z0 : St} {N : Nat}(hM : mX11_doHost_2 &&& M = mX11_doHost_2)  : ∀ (n : Nat) (y0 : Nat) (y1 : Nat) (y2 : Int32) (z : St), zFr M z0 z → zPw M z0 (fX11_doHost_2 N n y0 y1 y2 z) := by
  intro n
  induction n with
  | zero => intro y0 y1 y2 z h; exact zw_n
  | succ n ih => intro y0 y1 y2 z h; exact wX11_doHost_2b (ztr rfl hM)  (fun _ _ _ _ h => ih _ _ _ _ h) h
def mX11_doHost : Nat := 0x6005a00200000000000000000000000000000000000000000000000000000000000000000000000000000000000000000000000000000000000000000000000000000000000000000000000992000000000000001c7000000000000000000000000000012000000000000007eff00000000000002480000000000000260000000000000000c0000000000003e210000000000000e6f00000000000000000000000000000000
theorem wX11_doHost {M : Nat} {N : Nat} {x0 : Nat} {x1 : Nat} {z0 z : St} (hM : mX11_doHost &&& M = mX11_doHost)  (h : zFr M z0 z) : zPw M z0 (fX11_doHost N x0 x1 z) := by
  unfold fX11_doHost
  exact wX11_doHost_2 (ztr rfl hM)  _ _ _ _ _ h
def mX11_abandonThrough_70 : Nat := 0x0
theorem wX11_abandonThrough_70 {M : Nat} {N : Nat} {K2 : Nat → Int32 → Int32 → St → Option (Int32 × St)} {x1 : Nat} {x2 : Int32} {x3 : Int32} {z0 z : St} (hM : mX11_abandonThrough_70 &&& M = mX11_abandonThrough_70)  (hK2 : ∀ a0 a1 a2 a3, zFr M z0 a3 → zPw M z0 (K2 a0 a1 a2 a3)) (h : zFr M z0 z) : zPw M z0 (fX11_abandonThrough_70 N K2 x1 x2 x3 z) := by
  unfold fX11_abandonThrough_70
  exact zw_l (fun v1 => hK2 _ _ _ _ h)
def mX11_abandonThrough_2b : Nat := 0x10000000000000000000000000000000000000000000000000000000000000000000000000000000000000000000000000000000000003be1000000000000002000000000000000000000000000000000
theorem wX11_abandonThrough_2b {M : Nat} {N : Nat} {K2 : Nat → Int32 → Int32 → St → Option (Int32 × St)} {x1 : Nat} {x2 : Int32} {x3 : Int32} {z0 z : St} (hM : mX11_abandonThrough_2b &&& M = mX11_abandonThrough_2b)  (hK2 : ∀ a0 a1 a2 a3, zFr M z0 a3 → zPw M z0 (K2 a0 a1 a2 a3)) (h : zFr M z0 z) : zPw M z0 (fX11_abandonThrough_2b N K2 x1 x2 x3 z) := by
  unfold fX11_abandonThrough_2b
  exact zw_i (zw_s h) (zw_k (zw_l (fun y3 => zw_d (fun a4 => zw_i (wX11_abandonThrough_70 (ztr rfl hM) hK2 h) (zw_i (zw_lI h (ztb hM rfl) (fun z7 h1 => zw_i (wX11_abandonThrough_70 (ztr rfl hM) hK2 h1) (zw_l (fun y9 => zw_d (fun a10 => zw_c (wX3_isDead (ztr rfl hM)  h1) (fun r11 z12 h2 => zw_i (wX11_abandonThrough_70 (ztr rfl hM) hK2 h2) (zw_l (fun y16 => zw_d (fun a17 => zw_c (wX3_abortByOwner (ztr rfl hM)  h2) (fun _ z19 h3 => wX11_abandonThrough_70 (ztr rfl hM) hK2 h3)))))))))) (wX11_abandonThrough_70 (ztr rfl hM) hK2 h))))))
def mX11_abandonThrough_2 : Nat := 0x10000000000000000000000000000000000000000000000000000000000000000000000000000000000000000000000000000000000003be1000000000000002000000000000000000000000000000000
theorem wX11_abandonThrough_2 {M : Nat} {z0 : St} {N : Nat}(hM : mX11_abandonThrough_2 &&& M = mX11_abandonThrough_2)  : ∀ (n : Nat) (y0 : Nat) (y1 : Int32) (y2 : Int32) (z : St), zFr M z0 z → zPw M z0 (fX11_abandonThrough_2 N n y0 y1 y2 z) := by
  intro n
  induction n with
  | zero => intro y0 y1 y2 z h; exact zw_n
  | succ n ih => intro y0 y1 y2 z h; exact wX11_abandonThrough_2b (ztr rfl hM)  (fun _ _ _ _ h => ih _ _ _ _ h) h
def mX11_abandonThrough : Nat := 0x10000000000000000000000000000000000000000000000000000000000000000000000000000000000000000000000000000000000003be1000000000000002000000000000000000000000000000000
theorem wX11_abandonThrough {M : Nat} {N : Nat} {x0 : Nat} {x1 : Nat} {x2 : Int32} {z0 z : St} (hM : mX11_abandonThrough &&& M = mX11_abandonThrough)  (h : zFr M z0 z) : zPw M z0 (fX11_abandonThrough N x0 x1 x2 z) := by
  unfold fX11_abandonThrough
  exact wX11_abandonThrough_2 (ztr rfl hM)  _ _ _ _ _ h
def mX11_wroteTo : Nat := 0x2000000000000000010000000000000000000000000000000000000000000000000000000000000000000000000000000000000000000000000000000000000000000000000000000000000000000000000000000000000000
theorem wX11_wroteTo {M : Nat} {N : Nat} {x0 : Nat} {x1 : Nat} {z0 z : St} (hM : mX11_wroteTo &&& M = mX11_wroteTo)  (h : zFr M z0 z) : zPw M z0 (fX11_wroteTo N x0 x1 z) := by
  unfold fX11_wroteTo
  exact zw_l (fun y1 => zw_d (fun a2 => zw_c (wX3_armProbe (ztr rfl hM)  h) (fun _ z4 h1 => zw_c (wX11_stir (ztr rfl hM)  h1) (fun _ z8 h2 => zw_s h2))))
def mX11_noteWriting : Nat := 0x38000000000000000000000000000000000000000000000000000000000000000000000000000000000000000000000000000000000000000000000000000000000000000000000000000008000000000000000000000000000000000000000000000000000000000000000000000000000000000000000000000000000000000000000000000000000000000000000000000000000000000000000000000000000000000000
theorem wX11_noteWriting {M : Nat} {N : Nat} {x0 : Nat} {x1 : Nat} {x2 : Int32} {x3 : Int64} {z0 z : St} (hM : mX11_noteWriting &&& M = mX11_noteWriting)  (h : zFr M z0 z) : zPw M z0 (fX11_noteWriting N x0 x1 x2 x3 z) := by
  unfold fX11_noteWriting
  exact zw_i (zw_k (zw_lA h (ztb hM rfl) (fun z3 h1 => zw_k (zw_lA h1 (ztb hM rfl) (fun z5 h2 => zw_k (zw_lL h2 (ztb hM rfl) (fun z7 h3 => zw_lI h3 (ztb hM rfl) (fun z8 h4 => zw_s h4)))))))) (zw_s h)
def mX14_begin_79b : Nat := 0x2000000000000000000000000000000000000000000000000000000000000000000000000000000000000000000000000000473bf0e0000000000000000000000000000000000000000000000000000000000000000000000000000000000000000000000000000000000000000000000000000000000000000000000000000000000000000000000000000000000000000000000000000000000000000000000000000000000000
theorem wX14_begin_79b {M : Nat} {N : Nat} {K79 : Nat → Int32 → St → Option (Int32 × St)} {x0 : Nat} {x3 : Int32} {z0 z : St} (hM : mX14_begin_79b &&& M = mX14_begin_79b)  (hK79 : ∀ a0 a1 a2, zFr M z0 a2 → zPw M z0 (K79 a0 a1 a2)) (h : zFr M z0 z) : zPw M z0 (fX14_begin_79b N K79 x0 x3 z) := by
  unfold fX14_begin_79b
  exact zw_i (zw_lI h (ztb hM rfl) (fun z2 h1 => zw_lI h1 (ztb hM rfl) (fun z3 h2 => zw_lI h2 (ztb hM rfl) (fun z4 h3 => zw_lI h3 (ztb hM rfl) (fun z5 h4 => zw_lI h4 (ztb hM rfl) (fun z6 h5 => zw_lI h5 (ztb hM rfl) (fun z7 h6 => zw_lI h6 (ztb hM rfl) (fun z8 h7 => zw_lI h7 (ztb hM rfl) (fun z9 h8 => zw_lI h8 (ztb hM rfl) (fun z10 h9 => zw_lI h9 (ztb hM rfl) (fun z11 h10 => zw_lI h10 (ztb hM rfl) (fun z12 h11 => zw_lI h11 (ztb hM rfl) (fun z13 h12 => zw_lI h12 (ztb hM rfl) (fun z14 h13 => zw_lI h13 (ztb hM rfl) (fun z15 h14 => zw_lI h14 (ztb hM rfl) (fun z16 h15 => zw_lI h15 (ztb hM rfl) (fun z17 h16 => zw_s h16))))))))))))))))) (zw_k (zw_lA h (ztb hM rfl) (fun z19 h17 => zw_l (fun v20 => hK79 _ _ _ h17))))
def mX14_begin_79 : Nat := 0x2000000000000000000000000000000000000000000000000000000000000000000000000000000000000000000000000000473bf0e0000000000000000000000000000000000000000000000000000000000000000000000000000000000000000000000000000000000000000000000000000000000000000000000000000000000000000000000000000000000000000000000000000000000000000000000000000000000000
theorem wX14_begin_79 {M : Nat} {z0 : St} {N : Nat}(hM : mX14_begin_79 &&& M = mX14_begin_79)  : ∀ (n : Nat) (y0 : Nat) (y1 : Int32) (z : St), zFr M z0 z → zPw M z0 (fX14_begin_79 N n y0 y1 z) := by
  intro n
  induction n with
  | zero => intro y0 y1 z h; exact zw_n
  | succ n ih => intro y0 y1 z h; exact wX14_begin_79b (ztr rfl hM)  (fun _ _ _ h => ih _ _ _ h) h
def mX14_begin : Nat := 0x2000000000000000000000000000000000000000000000000000000000000000000000000000000000000000000000000000473bf0e7fbe300000000000000000000000000000000000000000000000000000000000000000000000000000000000000000000000000000000000000000000000000000000000000000000000000000000000000000000000000000000000000000000000000000000000000000000000000000000
theorem wX14_begin {M : Nat} {N : Nat} {x0 : Nat} {x1 : Int32} {x2 : Int32} {z0 z : St} (hM : mX14_begin &&& M = mX14_begin)  (h : zFr M z0 z) : zPw M z0 (fX14_begin N x0 x1 x2 z) := by
  unfold fX14_begin
  exact zw_lI h (ztb hM rfl) (fun z1 h1 => zw_lI h1 (ztb hM rfl) (fun z2 h2 => zw_lI h2 (ztb hM rfl) (fun z3 h3 => zw_lI h3 (ztb hM rfl) (fun z4 h4 => zw_lI h4 (ztb hM rfl) (fun z5 h5 => zw_lI h5 (ztb hM rfl) (fun z6 h6 => zw_lI h6 (ztb hM rfl) (fun z7 h7 => zw_lI h7 (ztb hM rfl) (fun z8 h8 => zw_lI h8 (ztb hM rfl) (fun z9 h9 => zw_lI h9 (ztb hM rfl) (fun z10 h10 => zw_lI h10 (ztb hM rfl) (fun z11 h11 => zw_lI h11 (ztb hM rfl) (fun z12 h12 => zw_lI h12 (ztb hM rfl) (fun z13 h13 => zw_lI h13 (ztb hM rfl) (fun z14 h14 => zw_lI h14 (ztb hM rfl) (fun z15 h15 => wX14_begin_79 (ztr rfl hM)  _ _ _ _ h15)))))))))))))))
def mX14_readable_27 : Nat := 0x0
theorem wX14_readable_27 {M : Nat} {N : Nat} {x0 : Nat} {s0 : Int32} {z0 z : St} (hM : mX14_readable_27 &&& M = mX14_readable_27)  (h : zFr M z0 z) : zPw M z0 (fX14_readable_27 N x0 s0 z) := by
  unfold fX14_readable_27
  exact zw_s h
def mX14_readable : Nat := 0x0
theorem wX14_readable {M : Nat} {N : Nat} {x0 : Nat} {z0 z : St} (hM : mX14_readable &&& M = mX14_readable)  (h : zFr M z0 z) : zPw M z0 (fX14_readable N x0 z) := by
  unfold fX14_readable
  exact zw_i (zw_s h) (zw_i (wX14_readable_27 (ztr rfl hM)  h) (wX14_readable_27 (ztr rfl hM)  h))
def mX14_room : Nat := 0x0
theorem wX14_room {M : Nat} {N : Nat} {x0 : Nat} {z0 z : St} (hM : mX14_room &&& M = mX14_room)  (h : zFr M z0 z) : zPw M z0 (fX14_room N x0 z) := by
  unfold fX14_room
  exact zw_c (wX14_readable (ztr rfl hM)  h) (fun r1 z2 h1 => zw_s h1)
def mX19_isBefore : Nat := 0x0
theorem wX19_isBefore {M : Nat} {N : Nat} {x0 : Int32} {x1 : Int32} {z0 z : St} (hM : mX19_isBefore &&& M = mX19_isBefore)  (h : zFr M z0 z) : zPw M z0 (fX19_isBefore N x0 x1 z) := by
  unfold fX19_isBefore
  exact zw_i (zw_s h) (zw_s h)
def mX14_unthanked_29 : Nat := 0x0
theorem wX14_unthanked_29 {M : Nat} {N : Nat} {x0 : Nat} {s0 : Int32} {z0 z : St} (hM : mX14_unthanked_29 &&& M = mX14_unthanked_29)  (h : zFr M z0 z) : zPw M z0 (fX14_unthanked_29 N x0 s0 z) := by
  unfold fX14_unthanked_29
  exact zw_c (wX19_isBefore (ztr rfl hM)  h) (fun r1 z2 h1 => zw_i (zw_s h1) (zw_s h1))
def mX14_unthanked : Nat := 0x0
theorem wX14_unthanked {M : Nat} {N : Nat} {x0 : Nat} {z0 z : St} (hM : mX14_unthanked &&& M = mX14_unthanked)  (h : zFr M z0 z) : zPw M z0 (fX14_unthanked N x0 z) := by
  unfold fX14_unthanked
  exact zw_c (wX19_isBefore (ztr rfl hM)  h) (fun r1 z2 h1 => zw_i (wX14_unthanked_29 (ztr rfl hM)  h1) (wX14_unthanked_29 (ztr rfl hM)  h1))
def mX14_isDead_16 : Nat := 0x0
theorem wX14_isDead_16 {M : Nat} {N : Nat} {z0 z : St} (hM : mX14_isDead_16 &&& M = mX14_isDead_16)  (h : zFr M z0 z) : zPw M z0 (fX14_isDead_16 N z) := by
  unfold fX14_isDead_16
  exact zw_s h
def mX14_isDead : Nat := 0x0
theorem wX14_isDead {M : Nat} {N : Nat} {x0 : Nat} {z0 z : St} (hM : mX14_isDead &&& M = mX14_isDead)  (h : zFr M z0 z) : zPw M z0 (fX14_isDead N x0 z) := by
  unfold fX14_isDead
  exact zw_i (wX14_isDead_16 (ztr rfl hM)  h) (zw_i (zw_s h) (wX14_isDead_16 (ztr rfl hM)  h))
def mX14_sendsNew_43 : Nat := 0x0
theorem wX14_sendsNew_43 {M : Nat} {N : Nat} {z0 z : St} (hM : mX14_sendsNew_43 &&& M = mX14_sendsNew_43)  (h : zFr M z0 z) : zPw M z0 (fX14_sendsNew_43 N z) := by
  unfold fX14_sendsNew_43
  exact zw_s h
def mX14_sendsNew : Nat := 0x0
theorem wX14_sendsNew {M : Nat} {N : Nat} {x0 : Nat} {z0 z : St} (hM : mX14_sendsNew &&& M = mX14_sendsNew)  (h : zFr M z0 z) : zPw M z0 (fX14_sendsNew N x0 z) := by
  unfold fX14_sendsNew
  exact zw_i (wX14_sendsNew_43 (ztr rfl hM)  h) (zw_i (wX14_sendsNew_43 (ztr rfl hM)  h) (zw_i (wX14_sendsNew_43 (ztr rfl hM)  h) (zw_i (wX14_sendsNew_43 (ztr rfl hM)  h) (zw_i (zw_s h) (wX14_sendsNew_43 (ztr rfl hM)  h)))))
def mX14_lastSent : Nat := 0x0
theorem wX14_lastSent {M : Nat} {N : Nat} {x0 : Nat} {z0 z : St} (hM : mX14_lastSent &&& M = mX14_lastSent)  (h : zFr M z0 z) : zPw M z0 (fX14_lastSent N x0 z) := by
  unfold fX14_lastSent
  exact zw_i (zw_s h) (zw_c (wX19_isBefore (ztr rfl hM)  h) (fun r2 z3 h1 => zw_i (zw_s h1) (zw_s h1)))
def mX14_hasNew_35 : Nat := 0x0
theorem wX14_hasNew_35 {M : Nat} {N : Nat} {z0 z : St} (hM : mX14_hasNew_35 &&& M = mX14_hasNew_35)  (h : zFr M z0 z) : zPw M z0 (fX14_hasNew_35 N z) := by
  unfold fX14_hasNew_35
  exact zw_s h
def mX14_hasNew : Nat := 0x0
theorem wX14_hasNew {M : Nat} {N : Nat} {x0 : Nat} {z0 z : St} (hM : mX14_hasNew &&& M = mX14_hasNew)  (h : zFr M z0 z) : zPw M z0 (fX14_hasNew N x0 z) := by
  unfold fX14_hasNew
  exact zw_c (wX14_sendsNew (ztr rfl hM)  h) (fun r1 z2 h1 => zw_i (zw_s h1) (zw_c (wX19_isBefore (ztr rfl hM)  h1) (fun r6 z7 h2 => zw_i (wX14_hasNew_35 (ztr rfl hM)  h2) (zw_i (zw_s h2) (zw_c (wX14_lastSent (ztr rfl hM)  h2) (fun r12 z13 h3 => zw_i (zw_s h3) (wX14_hasNew_35 (ztr rfl hM)  h3)))))))
def mX14_become_63 : Nat := 0x8000000000000000000000000000000000000000000000000000000000000000000000000000000000000000000000000000000000000000000000000000000000000000000000000000000000000000000000000000000000000000000000000000000000000000000000000000000000000000000
theorem wX14_become_63 {M : Nat} {N : Nat} {x0 : Nat} {x1 : Int32} {x2 : Int32} {z0 z : St} (hM : mX14_become_63 &&& M = mX14_become_63)  (h : zFr M z0 z) : zPw M z0 (fX14_become_63 N x0 x1 x2 z) := by
  unfold fX14_become_63
  exact zw_i (zw_s h) (zw_lI h (ztb hM rfl) (fun z2 h1 => zw_s h1))
def mX14_become_55 : Nat := 0x8030000000000000000000000000000000000000000000000000000000000000000000000000000000000000000000000000000000000000000000000000000000000000000000000000000000000000000000000000000000000000000000000000000000000000000000000000000000000000000
theorem wX14_become_55 {M : Nat} {N : Nat} {x0 : Nat} {x1 : Int32} {x2 : Int32} {s0 : Nat} {s1 : Int32} {z0 z : St} (hM : mX14_become_55 &&& M = mX14_become_55)  (h : zFr M z0 z) : zPw M z0 (fX14_become_55 N x0 x1 x2 s0 s1 z) := by
  unfold fX14_become_55
  exact zw_q (zw_lI h (ztb hM rfl) (fun z1 h1 => zw_lI h1 (ztb hM rfl) (fun z3 h2 => wX14_become_63 (ztr rfl hM)  h2)))
def mX14_become_54 : Nat := 0x8030000000000000000000000000000000000000000000000000000000000000000000000000000000000000000000000000000000000000000000000000000000000000000000000000000000000000000000000000000000000000000000000000000000000000000000000000000000000000000
theorem wX14_become_54 {M : Nat} {N : Nat} {x0 : Nat} {x1 : Int32} {x2 : Int32} {s0 : Nat} {z0 z : St} (hM : mX14_become_54 &&& M = mX14_become_54)  (h : zFr M z0 z) : zPw M z0 (fX14_become_54 N x0 x1 x2 s0 z) := by
  unfold fX14_become_54
  exact wX14_become_55 (ztr rfl hM)  h
def mX14_become_21 : Nat := 0x803d000000000000000000000000000000000000000000000000000000000000000000000000000000000000000000000000000000000000000000000000000000000000000000000000000000000000000000000000000000000000000000000000000000000000000000000000000000000000000
theorem wX14_become_21 {M : Nat} {N : Nat} {x0 : Nat} {x1 : Int32} {x2 : Int32} {z0 z : St} (hM : mX14_become_21 &&& M = mX14_become_21)  (h : zFr M z0 z) : zPw M z0 (fX14_become_21 N x0 x1 x2 z) := by
  unfold fX14_become_21
  exact zw_lI h (ztb hM rfl) (fun z1 h1 => zw_lI h1 (ztb hM rfl) (fun z2 h2 => zw_lI h2 (ztb hM rfl) (fun z3 h3 => zw_i (wX14_become_54 (ztr rfl hM)  h3) (zw_i (wX14_become_54 (ztr rfl hM)  h3) (wX14_become_55 (ztr rfl hM)  h3)))))
def mX14_become : Nat := 0x803d000000100000000000000000000000000000000000000000000000000000000000000000000000000000000000000000000000000000000000000000000000000000000000000000000000000000000000000000000000000000000000000000000000000000000000000000000000000000000
theorem wX14_become {M : Nat} {N : Nat} {x0 : Nat} {x1 : Int32} {x2 : Int32} {z0 z : St} (hM : mX14_become &&& M = mX14_become)  (h : zFr M z0 z) : zPw M z0 (fX14_become N x0 x1 x2 z) := by
  unfold fX14_become
  exact zw_lI h (ztb hM rfl) (fun z1 h1 => zw_i (wX14_become_21 (ztr rfl hM)  h1) (zw_i (wX14_become_21 (ztr rfl hM)  h1) (zw_i (wX14_become_63 (ztr rfl hM)  h1) (wX14_become_21 (ztr rfl hM)  h1))))
def mX14_setAlarm : Nat := 0x60000000000000000000000000000000000000000000000000000000000000000000000000000000000000000000000000000000000000000000000000000000000000000000000000000000000000000000000000000000000000000000000000000000000000000000000000000000000000000
theorem wX14_setAlarm {M : Nat} {N : Nat} {x0 : Nat} {x1 : Int32} {z0 z : St} (hM : mX14_setAlarm &&& M = mX14_setAlarm)  (h : zFr M z0 z) : zPw M z0 (fX14_setAlarm N x0 x1 z) := by
  unfold fX14_setAlarm
  exact zw_lI h (ztb hM rfl) (fun z1 h1 => zw_lI h1 (ztb hM rfl) (fun z2 h2 => zw_s h2))
def mX14_resetWith : Nat := 0xf00000000000000000000000000000000000000000000000000000000000000000000000000000000000000000000000000000000000000000000000000000000000000000000000000000000000000000000000000000000000000000000000000000000000000000000000000000000000000
theorem wX14_resetWith {M : Nat} {N : Nat} {x0 : Nat} {x1 : Int32} {x2 : Int32} {x3 : Int32} {z0 z : St} (hM : mX14_resetWith &&& M = mX14_resetWith)  (h : zFr M z0 z) : zPw M z0 (fX14_resetWith N x0 x1 x2 x3 z) := by
  unfold fX14_resetWith
  exact zw_lI h (ztb hM rfl) (fun z1 h1 => zw_lI h1 (ztb hM rfl) (fun z2 h2 => zw_lI h2 (ztb hM rfl) (fun z3 h3 => zw_lI h3 (ztb hM rfl) (fun z4 h4 => zw_s h4))))
def mX14_time_99 : Nat := 0x80000000000000000000000000000000000000000000000000000000000000000000000000000000000000000000000000000000000000000000000000000000000000000000000000000000000000000000000000000000000000000000000000000000000000000000000000000000000000000
theorem wX14_time_99 {M : Nat} {N : Nat} {x0 : Nat} {s0 : Int32} {s1 : Int32} {z0 z : St} (hM : mX14_time_99 &&& M = mX14_time_99)  (h : zFr M z0 z) : zPw M z0 (fX14_time_99 N x0 s0 s1 z) := by
  unfold fX14_time_99
  exact zw_l (fun v1 => zw_i (zw_i (zw_lI h (ztb hM rfl) (fun z4 h1 => zw_s h1)) (zw_lI h (ztb hM rfl) (fun z5 h2 => zw_s h2))) (zw_lI h (ztb hM rfl) (fun z6 h3 => zw_s h3)))
def mX14_time_76 : Nat := 0x80000000000000000000000000000000000000000000000000000000000000000000000000000000000000000000000000000000000000000000000000000000000000000000000000000000000000000000000000000000000000000000000000000000000000000000000000000000000000000
theorem wX14_time_76 {M : Nat} {N : Nat} {x0 : Nat} {z0 z : St} (hM : mX14_time_76 &&& M = mX14_time_76)  (h : zFr M z0 z) : zPw M z0 (fX14_time_76 N x0 z) := by
  unfold fX14_time_76
  exact zw_i (wX14_time_99 (ztr rfl hM)  h) (wX14_time_99 (ztr rfl hM)  h)
def mX14_time_42 : Nat := 0x4080000000000000000000000000000000000000000000000000000000000000000000000000000000000000000000000000000000000000000000000000000000000000000000000000000000000000000000000000000000000000000000000000000000000000000000000000000000000000000
theorem wX14_time_42 {M : Nat} {N : Nat} {x0 : Nat} {s0 : Nat} {s1 : Int32} {s2 : Int32} {z0 z : St} (hM : mX14_time_42 &&& M = mX14_time_42)  (h : zFr M z0 z) : zPw M z0 (fX14_time_42 N x0 s0 s1 s2 z) := by
  unfold fX14_time_42
  exact zw_lI h (ztb hM rfl) (fun z1 h1 => wX14_time_76 (ztr rfl hM)  h1)
def mX14_time : Nat := 0x7080000000000000000000000000000000000000000000000000000000000000000000000000000000000000000000000000000000000000000000000000000000000000000000000000000000000000000000000000000000000000000000000000000000000000000000000000000000000000000
theorem wX14_time {M : Nat} {N : Nat} {x0 : Nat} {x1 : Int32} {z0 z : St} (hM : mX14_time &&& M = mX14_time)  (h : zFr M z0 z) : zPw M z0 (fX14_time N x0 x1 z) := by
  unfold fX14_time
  exact zw_i (zw_lI h (ztb hM rfl) (fun z2 h1 => zw_lI h1 (ztb hM rfl) (fun z3 h2 => zw_lI h2 (ztb hM rfl) (fun z4 h3 => wX14_time_76 (ztr rfl hM)  h3)))) (zw_l (fun v5 => zw_lI h (ztb hM rfl) (fun z6 h4 => zw_i (wX14_time_42 (ztr rfl hM)  h4) (wX14_time_42 (ztr rfl hM)  h4))))
def mX14_thankedFor_38 : Nat := 0x164000000000000000000000000000000000000000000000000000000000000000000000000000000000000000000000000000000000000000000000000000000000000000000000000000000000000000000000000000000000000000000000000000000000000000000000000000000000000000
theorem wX14_thankedFor_38 {M : Nat} {N : Nat} {x0 : Nat} {x2 : Int32} {z0 z : St} (hM : mX14_thankedFor_38 &&& M = mX14_thankedFor_38)  (h : zFr M z0 z) : zPw M z0 (fX14_thankedFor_38 N x0 x2 z) := by
  unfold fX14_thankedFor_38
  exact zw_lI h (ztb hM rfl) (fun z1 h1 => zw_lI h1 (ztb hM rfl) (fun z2 h2 => zw_i (zw_lI h2 (ztb hM rfl) (fun z4 h3 => zw_s h3)) (zw_c (wX14_setAlarm (ztr rfl hM)  h2) (fun _ z6 h4 => zw_s h4))))
def mX14_thankedFor : Nat := 0x73e4000004000000000000000000000000000000000000000000000000000000000000000000000000000000000000000000000000000000000000000000000000000000000000000000000000000000000000000000000000000000000000000000000000000000000000000000000000000000000
theorem wX14_thankedFor {M : Nat} {N : Nat} {x0 : Nat} {x1 : Int32} {x2 : Int32} {z0 z : St} (hM : mX14_thankedFor &&& M = mX14_thankedFor)  (h : zFr M z0 z) : zPw M z0 (fX14_thankedFor N x0 x1 x2 z) := by
  unfold fX14_thankedFor
  exact zw_lI h (ztb hM rfl) (fun z1 h1 => zw_i (wX14_thankedFor_38 (ztr rfl hM)  h1) (zw_c (wX19_isBefore (ztr rfl hM)  h1) (fun r3 z4 h2 => zw_i (wX14_thankedFor_38 (ztr rfl hM)  h2) (zw_lI h2 (ztb hM rfl) (fun z8 h3 => zw_c (wX14_time (ztr rfl hM)  h3) (fun _ z10 h4 => wX14_thankedFor_38 (ztr rfl hM)  h4))))))
def mX14_fits_27 : Nat := 0x0
theorem wX14_fits_27 {M : Nat} {N : Nat} {z0 z : St} (hM : mX14_fits_27 &&& M = mX14_fits_27)  (h : zFr M z0 z) : zPw M z0 (fX14_fits_27 N z) := by
  unfold fX14_fits_27
  exact zw_s h
def mX14_fits : Nat := 0x0
theorem wX14_fits {M : Nat} {N : Nat} {x0 : Nat} {x1 : Int32} {x2 : Int32} {z0 z : St} (hM : mX14_fits &&& M = mX14_fits)  (h : zFr M z0 z) : zPw M z0 (fX14_fits N x0 x1 x2 z) := by
  unfold fX14_fits
  exact zw_l (fun v1 => zw_i (zw_c (wX14_room (ztr rfl hM)  h) (fun r3 z4 h1 => zw_i (zw_s h1) (zw_i (zw_s h1) (zw_c (wX14_room (ztr rfl hM)  h1) (fun r9 z10 h2 => zw_i (zw_s h2) (zw_s h2)))))) (zw_i (wX14_fits_27 (ztr rfl hM)  h) (zw_i (zw_s h) (zw_c (wX14_room (ztr rfl hM)  h) (fun r16 z17 h3 => zw_i (zw_s h3) (wX14_fits_27 (ztr rfl hM)  h3))))))
def mX14_isNew_12 : Nat := 0xe00000000000000000000000000000000000000000000000000000000000000000000000000000000000000000000000000000000000000000000000000000000000000000000000000000000000000000000000000000000000000000000000000000000000000000000000000000000000000000
theorem wX14_isNew_12 {M : Nat} {N : Nat} {x0 : Nat} {x1 : Int32} {z0 z : St} (hM : mX14_isNew_12 &&& M = mX14_isNew_12)  (h : zFr M z0 z) : zPw M z0 (fX14_isNew_12 N x0 x1 z) := by
  unfold fX14_isNew_12
  exact zw_i (zw_s h) (zw_lI h (ztb hM rfl) (fun z2 h1 => zw_lI h1 (ztb hM rfl) (fun z3 h2 => zw_lI h2 (ztb hM rfl) (fun z4 h3 => zw_s h3))))
def mX14_isNew : Nat := 0xe60000000000000000000000000000000000000000000000000000000000000000000000000000000000000000000000000000000000000000000000000000000000000000000000000000000000000000000000000000000000000000000000000000000000000000000000000000000000000000
theorem wX14_isNew {M : Nat} {N : Nat} {x0 : Nat} {x1 : Int32} {z0 z : St} (hM : mX14_isNew &&& M = mX14_isNew)  (h : zFr M z0 z) : zPw M z0 (fX14_isNew N x0 x1 z) := by
  unfold fX14_isNew
  exact zw_i (wX14_isNew_12 (ztr rfl hM)  h) (zw_c (wX14_setAlarm (ztr rfl hM)  h) (fun _ z3 h1 => wX14_isNew_12 (ztr rfl hM)  h1))
def mX14_ring_105 : Nat := 0xe0000000000000000000000000000000000000000000000000000000000000000000000000000000000000000000000000000000000000000000000000000000000000000000000000000000000000000000000000000000000000000000000000000000000000000000000000000000000000000
theorem wX14_ring_105 {M : Nat} {N : Nat} {x0 : Nat} {x1 : Int32} {s0 : Nat} {s1 : Int32} {z0 z : St} (hM : mX14_ring_105 &&& M = mX14_ring_105)  (h : zFr M z0 z) : zPw M z0 (fX14_ring_105 N x0 x1 s0 s1 z) := by
  unfold fX14_ring_105
  exact zw_lI h (ztb hM rfl) (fun z1 h1 => zw_c (wX14_setAlarm (ztr rfl hM)  h1) (fun _ z3 h2 => zw_s h2))
def mX14_ring_80 : Nat := 0xe0000000000000000000000000000000000000000000000000000000000000000000000000000000000000000000000000000000000000000000000000000000000000000000000000000000000000000000000000000000000000000000000000000000000000000000000000000000000000000
theorem wX14_ring_80 {M : Nat} {N : Nat} {x0 : Nat} {x1 : Int32} {z0 z : St} (hM : mX14_ring_80 &&& M = mX14_ring_80)  (h : zFr M z0 z) : zPw M z0 (fX14_ring_80 N x0 x1 z) := by
  unfold fX14_ring_80
  exact zw_i (wX14_ring_105 (ztr rfl hM)  h) (wX14_ring_105 (ztr rfl hM)  h)
def mX14_ring_67 : Nat := 0xe1000000000000000000000000000000000000000000000000000000000000000000000000000000000000000000000000000000000000000000000000000000000000000000000000000000000000000000000000000000000000000000000000000000000000000000000000000000000000000
theorem wX14_ring_67 {M : Nat} {N : Nat} {x0 : Nat} {x1 : Int32} {z0 z : St} (hM : mX14_ring_67 &&& M = mX14_ring_67)  (h : zFr M z0 z) : zPw M z0 (fX14_ring_67 N x0 x1 z) := by
  unfold fX14_ring_67
  exact zw_lI h (ztb hM rfl) (fun z1 h1 => wX14_ring_80 (ztr rfl hM)  h1)
def mX14_ring : Nat := 0x81fd000000100000000000000000000000000000000000000000000000000000000000000000000000000000000000000000000000000000000000000000000000000000000000000000000000000000000000000000000000000000000000000000000000000000000000000000000000000000000
theorem wX14_ring {M : Nat} {N : Nat} {x0 : Nat} {x1 : Int32} {z0 z : St} (hM : mX14_ring &&& M = mX14_ring)  (h : zFr M z0 z) : zPw M z0 (fX14_ring N x0 x1 z) := by
  unfold fX14_ring
  exact zw_lI h (ztb hM rfl) (fun z1 h1 => zw_lI h1 (ztb hM rfl) (fun z2 h2 => zw_i (zw_i (zw_i (wX14_ring_67 (ztr rfl hM)  h2) (zw_i (zw_lI h2 (ztb hM rfl) (fun z7 h3 => wX14_ring_80 (ztr rfl hM)  h3)) (wX14_ring_67 (ztr rfl hM)  h2))) (zw_lI h2 (ztb hM rfl) (fun z8 h4 => wX14_ring_80 (ztr rfl hM)  h4))) (zw_c (wX14_become (ztr rfl hM)  h2) (fun _ z10 h5 => zw_s h5))))
def mX14_persist : Nat := 0x60000000000000000000000000000000000000000000000000000000000000000000000000000000000000000000000000000000000000000000000000000000000000000000000000000000000000000000000000000000000000000000000000000000000000000000000000000000000000000
theorem wX14_persist {M : Nat} {N : Nat} {x0 : Nat} {x1 : Int32} {z0 z : St} (hM : mX14_persist &&& M = mX14_persist)  (h : zFr M z0 z) : zPw M z0 (fX14_persist N x0 x1 z) := by
  unfold fX14_persist
  exact zw_i (zw_s h) (zw_i (zw_s h) (zw_i (zw_s h) (zw_c (wX14_hasNew (ztr rfl hM)  h) (fun r4 z5 h1 => zw_i (zw_s h1) (zw_c (wX14_setAlarm (ztr rfl hM)  h1) (fun _ z10 h2 => zw_s h2))))))
def mX14_read_100 : Nat := 0x10000000000000000000000000000000000000000000000000000000000000000000000000000000000000000000000000000000000000000000000000000000000000000000000000000000000000000000000000000000000000000000000000000000000000000000000000000000000000000
theorem wX14_read_100 {M : Nat} {N : Nat} {x0 : Nat} {x3 : Int32} {z0 z : St} (hM : mX14_read_100 &&& M = mX14_read_100)  (h : zFr M z0 z) : zPw M z0 (fX14_read_100 N x0 x3 z) := by
  unfold fX14_read_100
  exact zw_lI h (ztb hM rfl) (fun z1 h1 => zw_s h1)
def mX14_read_34 : Nat := 0x10004000000000000000000000000000000000000000000000000000000000000000000000000000000000000000000000000000000000000000000000000000000000000000000000000000000000000000000000000000000000000000000000000000000000000000000000000000000000000
theorem wX14_read_34 {M : Nat} {N : Nat} {x0 : Nat} {x1 : Int32} {s0 : Int32} {z0 z : St} (hM : mX14_read_34 &&& M = mX14_read_34)  (h : zFr M z0 z) : zPw M z0 (fX14_read_34 N x0 x1 s0 z) := by
  unfold fX14_read_34
  exact zw_k (zw_l (fun v2 => zw_lI h (ztb hM rfl) (fun z3 h1 => zw_i (zw_s h1) (zw_c (wX14_room (ztr rfl hM)  h1) (fun r5 z6 h2 => zw_i (zw_s h2) (zw_i (wX14_read_100 (ztr rfl hM)  h2) (zw_i (wX14_read_100 (ztr rfl hM)  h2) (zw_i (zw_s h2) (wX14_read_100 (ztr rfl hM)  h2)))))))))
def mX14_read_20 : Nat := 0x10004000000000000000000000000000000000000000000000000000000000000000000000000000000000000000000000000000000000000000000000000000000000000000000000000000000000000000000000000000000000000000000000000000000000000000000000000000000000000
theorem wX14_read_20 {M : Nat} {N : Nat} {x0 : Nat} {s0 : Int32} {z0 z : St} (hM : mX14_read_20 &&& M = mX14_read_20)  (h : zFr M z0 z) : zPw M z0 (fX14_read_20 N x0 s0 z) := by
  unfold fX14_read_20
  exact zw_c (wX14_room (ztr rfl hM)  h) (fun r1 z2 h1 => zw_i (wX14_read_34 (ztr rfl hM)  h1) (wX14_read_34 (ztr rfl hM)  h1))
def mX14_read : Nat := 0x10004000000000000000000000000000000000000000000000000000000000000000000000000000000000000000000000000000000000000000000000000000000000000000000000000000000000000000000000000000000000000000000000000000000000000000000000000000000000000
theorem wX14_read {M : Nat} {N : Nat} {x0 : Nat} {z0 z : St} (hM : mX14_read &&& M = mX14_read)  (h : zFr M z0 z) : zPw M z0 (fX14_read N x0 z) := by
  unfold fX14_read
  exact zw_i (wX14_read_20 (ztr rfl hM)  h) (wX14_read_20 (ztr rfl hM)  h)
def mX14_canWrite : Nat := 0x0
theorem wX14_canWrite {M : Nat} {N : Nat} {x0 : Nat} {z0 z : St} (hM : mX14_canWrite &&& M = mX14_canWrite)  (h : zFr M z0 z) : zPw M z0 (fX14_canWrite N x0 z) := by
  unfold fX14_canWrite
  exact zw_i (zw_s h) (zw_c (wX14_isDead (ztr rfl hM)  h) (fun r2 z3 h1 => zw_i (zw_s h1) (zw_i (zw_s h1) (zw_s h1))))
def mX14_close_21 : Nat := 0x803d000000100000000000000000000000000000000000000000000000000000000000000000000000000000000000000000000000000000000000000000000000000000000000000000000000000000000000000000000000000000000000000000000000000000000000000000000000000000000
theorem wX14_close_21 {M : Nat} {N : Nat} {x0 : Nat} {x1 : Int32} {z0 z : St} (hM : mX14_close_21 &&& M = mX14_close_21)  (h : zFr M z0 z) : zPw M z0 (fX14_close_21 N x0 x1 z) := by
  unfold fX14_close_21
  exact zw_c (wX14_become (ztr rfl hM)  h) (fun _ z2 h1 => zw_s h1)
def mX14_close : Nat := 0x803d000020100000000000000000000000000000000000000000000000000000000000000000000000000000000000000000000000000000000000000000000000000000000000000000000000000000000000000000000000000000000000000000000000000000000000000000000000000000000
theorem wX14_close {M : Nat} {N : Nat} {x0 : Nat} {x1 : Int32} {z0 z : St} (hM : mX14_close &&& M = mX14_close)  (h : zFr M z0 z) : zPw M z0 (fX14_close N x0 x1 z) := by
  unfold fX14_close
  exact zw_lI h (ztb hM rfl) (fun z1 h1 => zw_i (wX14_close_21 (ztr rfl hM)  h1) (zw_i (zw_i (zw_i (zw_s h1) (zw_lI h1 (ztb hM rfl) (fun z6 h2 => zw_s h2))) (zw_lI h1 (ztb hM rfl) (fun z7 h3 => zw_s h3))) (wX14_close_21 (ztr rfl hM)  h1)))
def mX14_abort_64 : Nat := 0xf00000000000000000000000000000000000000000000000000000000000000000000000000000000000000000000000000000000000000000000000000000000000000000000000000000000000000000000000000000000000000000000000000000000000000000000000000000000000000
theorem wX14_abort_64 {M : Nat} {N : Nat} {s0 : Nat} {s1 : Int32} {s2 : Int32} {s3 : Int32} {z0 z : St} (hM : mX14_abort_64 &&& M = mX14_abort_64)  (h : zFr M z0 z) : zPw M z0 (fX14_abort_64 N s0 s1 s2 s3 z) := by
  unfold fX14_abort_64
  exact zw_c (wX14_resetWith (ztr rfl hM)  h) (fun _ z2 h1 => zw_s h1)
def mX14_abort_30 : Nat := 0x803df00000100000000000000000000000000000000000000000000000000000000000000000000000000000000000000000000000000000000000000000000000000000000000000000000000000000000000000000000000000000000000000000000000000000000000000000000000000000000
theorem wX14_abort_30 {M : Nat} {N : Nat} {x0 : Nat} {x1 : Int32} {s0 : Int32} {z0 z : St} (hM : mX14_abort_30 &&& M = mX14_abort_30)  (h : zFr M z0 z) : zPw M z0 (fX14_abort_30 N x0 x1 s0 z) := by
  unfold fX14_abort_30
  exact zw_c (wX14_become (ztr rfl hM)  h) (fun _ z2 h1 => zw_i (zw_s h1) (zw_i (wX14_abort_64 (ztr rfl hM)  h1) (wX14_abort_64 (ztr rfl hM)  h1)))
def mX14_abort_29 : Nat := 0x803df00000100000000000000000000000000000000000000000000000000000000000000000000000000000000000000000000000000000000000000000000000000000000000000000000000000000000000000000000000000000000000000000000000000000000000000000000000000000000
theorem wX14_abort_29 {M : Nat} {N : Nat} {x0 : Nat} {x1 : Int32} {z0 z : St} (hM : mX14_abort_29 &&& M = mX14_abort_29)  (h : zFr M z0 z) : zPw M z0 (fX14_abort_29 N x0 x1 z) := by
  unfold fX14_abort_29
  exact wX14_abort_30 (ztr rfl hM)  h
def mX14_abort : Nat := 0x803df00000100000000000000000000000000000000000000000000000000000000000000000000000000000000000000000000000000000000000000000000000000000000000000000000000000000000000000000000000000000000000000000000000000000000000000000000000000000000
theorem wX14_abort {M : Nat} {N : Nat} {x0 : Nat} {x1 : Int32} {z0 z : St} (hM : mX14_abort &&& M = mX14_abort)  (h : zFr M z0 z) : zPw M z0 (fX14_abort N x0 x1 z) := by
  unfold fX14_abort
  exact zw_i (wX14_abort_29 (ztr rfl hM)  h) (zw_i (wX14_abort_29 (ztr rfl hM)  h) (zw_i (wX14_abort_29 (ztr rfl hM)  h) (wX14_abort_30 (ztr rfl hM)  h)))
def mX17_isWhole_2b : Nat := 0x0
theorem wX17_isWhole_2b {M : Nat} {N : Nat} {K2 : Nat → Int32 → St → Option (Int32 × St)} {x0 : Nat} {x1 : Int32} {z0 z : St} (hM : mX17_isWhole_2b &&& M = mX17_isWhole_2b)  (hK2 : ∀ a0 a1 a2, zFr M z0 a2 → zPw M z0 (K2 a0 a1 a2)) (h : zFr M z0 z) : zPw M z0 (fX17_isWhole_2b N K2 x0 x1 z) := by
  unfold fX17_isWhole_2b
  exact zw_i (zw_i (zw_s h) (zw_s h)) (zw_k (zw_i (zw_l (fun v5 => hK2 _ _ _ h)) (zw_s h)))
def mX17_isWhole_2 : Nat := 0x0
theorem wX17_isWhole_2 {M : Nat} {z0 : St} {N : Nat}(hM : mX17_isWhole_2 &&& M = mX17_isWhole_2)  : ∀ (n : Nat) (y0 : Nat) (y1 : Int32) (z : St), zFr M z0 z → zPw M z0 (fX17_isWhole_2 N n y0 y1 z) := by
  intro n
  induction n with
  | zero => intro y0 y1 z h; exact zw_n
  | succ n ih => intro y0 y1 z h; exact wX17_isWhole_2b (ztr rfl hM)  (fun _ _ _ h => ih _ _ _ h) h
def mX17_isWhole : Nat := 0x0
theorem wX17_isWhole {M : Nat} {N : Nat} {x0 : Nat} {z0 z : St} (hM : mX17_isWhole &&& M = mX17_isWhole)  (h : zFr M z0 z) : zPw M z0 (fX17_isWhole N x0 z) := by
  unfold fX17_isWhole
  exact wX17_isWhole_2 (ztr rfl hM)  _ _ _ _ h
def mX18_address : Nat := 0x0
theorem wX18_address {M : Nat} {N : Nat} {x0 : Nat} {z0 z : St} (hM : mX18_address &&& M = mX18_address)  (h : zFr M z0 z) : zPw M z0 (fX18_address N x0 z) := by
  unfold fX18_address
  exact zw_l (fun y1 => zw_d (fun a2 => zw_s h))
def mX18_askingOf_2b : Nat := 0x0
theorem wX18_askingOf_2b {M : Nat} {N : Nat} {K2 : Nat → Int32 → Int32 → St → Option (Int32 × St)} {x0 : Nat} {x1 : Int32} {x2 : Int32} {z0 z : St} (hM : mX18_askingOf_2b &&& M = mX18_askingOf_2b)  (hK2 : ∀ a0 a1 a2 a3, zFr M z0 a3 → zPw M z0 (K2 a0 a1 a2 a3)) (h : zFr M z0 z) : zPw M z0 (fX18_askingOf_2b N K2 x0 x1 x2 z) := by
  unfold fX18_askingOf_2b
  exact zw_i (zw_s h) (zw_k (zw_i (zw_l (fun v4 => hK2 _ _ _ _ h)) (zw_s h)))
def mX18_askingOf_2 : Nat := 0x0
theorem wX18_askingOf_2 {M : Nat} {z0 : St} {N : Nat}(hM : mX18_askingOf_2 &&& M = mX18_askingOf_2)  : ∀ (n : Nat) (y0 : Nat) (y1 : Int32) (y2 : Int32) (z : St), zFr M z0 z → zPw M z0 (fX18_askingOf_2 N n y0 y1 y2 z) := by
  intro n
  induction n with
  | zero => intro y0 y1 y2 z h; exact zw_n
  | succ n ih => intro y0 y1 y2 z h; exact wX18_askingOf_2b (ztr rfl hM)  (fun _ _ _ _ h => ih _ _ _ _ h) h
def mX18_askingOf : Nat := 0x0
theorem wX18_askingOf {M : Nat} {N : Nat} {x0 : Nat} {x1 : Int32} {z0 z : St} (hM : mX18_askingOf &&& M = mX18_askingOf)  (h : zFr M z0 z) : zPw M z0 (fX18_askingOf N x0 x1 z) := by
  unfold fX18_askingOf
  exact wX18_askingOf_2 (ztr rfl hM)  _ _ _ _ _ h
def mX18_someWaitFor_2b : Nat := 0x0
theorem wX18_someWaitFor_2b {M : Nat} {N : Nat} {K2 : Nat → Int32 → Int32 → St → Option (Int32 × St)} {x0 : Nat} {x1 : Int32} {x2 : Int32} {z0 z : St} (hM : mX18_someWaitFor_2b &&& M = mX18_someWaitFor_2b)  (hK2 : ∀ a0 a1 a2 a3, zFr M z0 a3 → zPw M z0 (K2 a0 a1 a2 a3)) (h : zFr M z0 z) : zPw M z0 (fX18_someWaitFor_2b N K2 x0 x1 x2 z) := by
  unfold fX18_someWaitFor_2b
  exact zw_i (zw_s h) (zw_k (zw_i (zw_l (fun v4 => hK2 _ _ _ _ h)) (zw_s h)))
def mX18_someWaitFor_2 : Nat := 0x0
theorem wX18_someWaitFor_2 {M : Nat} {z0 : St} {N : Nat}(hM : mX18_someWaitFor_2 &&& M = mX18_someWaitFor_2)  : ∀ (n : Nat) (y0 : Nat) (y1 : Int32) (y2 : Int32) (z : St), zFr M z0 z → zPw M z0 (fX18_someWaitFor_2 N n y0 y1 y2 z) := by
  intro n
  induction n with
  | zero => intro y0 y1 y2 z h; exact zw_n
  | succ n ih => intro y0 y1 y2 z h; exact wX18_someWaitFor_2b (ztr rfl hM)  (fun _ _ _ _ h => ih _ _ _ _ h) h
def mX18_someWaitFor : Nat := 0x0
theorem wX18_someWaitFor {M : Nat} {N : Nat} {x0 : Nat} {x1 : Int32} {z0 z : St} (hM : mX18_someWaitFor &&& M = mX18_someWaitFor)  (h : zFr M z0 z) : zPw M z0 (fX18_someWaitFor N x0 x1 z) := by
  unfold fX18_someWaitFor
  exact wX18_someWaitFor_2 (ztr rfl hM)  _ _ _ _ _ h
def mX18_endAsking_12b : Nat := 0x30000000000000000000000000000000000000000000000000000000000000000000000000000000000000000000000000000000000000000000000000000000000000000000000000000000000000000000000000000000000000000000000000000000000000000000000000000000000000000000000000000000000000000000000000000000000000000000000000000000000000000000000000000000000000000000000000
theorem wX18_endAsking_12b {M : Nat} {N : Nat} {K12 : Nat → Int32 → St → Option (Int32 × St)} {x0 : Nat} {x2 : Int32} {z0 z : St} (hM : mX18_endAsking_12b &&& M = mX18_endAsking_12b)  (hK12 : ∀ a0 a1 a2, zFr M z0 a2 → zPw M z0 (K12 a0 a1 a2)) (h : zFr M z0 z) : zPw M z0 (fX18_endAsking_12b N K12 x0 x2 z) := by
  unfold fX18_endAsking_12b
  exact zw_i (zw_s h) (zw_k (zw_k (zw_lA h (ztb hM rfl) (fun z4 h1 => zw_k (zw_k (zw_lA h1 (ztb hM rfl) (fun z7 h2 => zw_l (fun v8 => hK12 _ _ _ h2))))))))
def mX18_endAsking_12 : Nat := 0x30000000000000000000000000000000000000000000000000000000000000000000000000000000000000000000000000000000000000000000000000000000000000000000000000000000000000000000000000000000000000000000000000000000000000000000000000000000000000000000000000000000000000000000000000000000000000000000000000000000000000000000000000000000000000000000000000
theorem wX18_endAsking_12 {M : Nat} {z0 : St} {N : Nat}(hM : mX18_endAsking_12 &&& M = mX18_endAsking_12)  : ∀ (n : Nat) (y0 : Nat) (y1 : Int32) (z : St), zFr M z0 z → zPw M z0 (fX18_endAsking_12 N n y0 y1 z) := by
  intro n
  induction n with
  | zero => intro y0 y1 z h; exact zw_n
  | succ n ih => intro y0 y1 z h; exact wX18_endAsking_12b (ztr rfl hM)  (fun _ _ _ h => ih _ _ _ h) h
def mX18_endAsking : Nat := 0x30000000000000000000000000000000000000000000000200000000000000000000000000000000000000000000000000000000000000000000000000000000000000000000000000000000000000000000000000000000000000000000000000000000000000000000000000000000000000000000000000000000000000000000000000000000000000000000000000000000000000000000000000000000000000000000000000
theorem wX18_endAsking {M : Nat} {N : Nat} {x0 : Nat} {x1 : Int32} {z0 z : St} (hM : mX18_endAsking &&& M = mX18_endAsking)  (h : zFr M z0 z) : zPw M z0 (fX18_endAsking N x0 x1 z) := by
  unfold fX18_endAsking
  exact zw_lI h (ztb hM rfl) (fun z1 h1 => wX18_endAsking_12 (ztr rfl hM)  _ _ _ _ h1)
def mX18_takeWaiting_19b : Nat := 0xc0000000000000000000000000000000000000000000000000000000000000000000000000000000000000000000000000000000000000000000000000000000000000000000000000000000000000000000000000000000000000000000000000000000000000000000000000000000000000000000000000000000000000000000000000000000000000000000000000000000000000000000000000000000000000000000000000
theorem wX18_takeWaiting_19b {M : Nat} {N : Nat} {K19 : Nat → Int32 → Int32 → St → Option (Int32 × St)} {x0 : Nat} {x2 : Int32} {x3 : Int32} {z0 z : St} (hM : mX18_takeWaiting_19b &&& M = mX18_takeWaiting_19b)  (hK19 : ∀ a0 a1 a2 a3, zFr M z0 a3 → zPw M z0 (K19 a0 a1 a2 a3)) (h : zFr M z0 z) : zPw M z0 (fX18_takeWaiting_19b N K19 x0 x2 x3 z) := by
  unfold fX18_takeWaiting_19b
  exact zw_i (zw_s h) (zw_k (zw_k (zw_lA h (ztb hM rfl) (fun z4 h1 => zw_k (zw_k (zw_lA h1 (ztb hM rfl) (fun z7 h2 => zw_l (fun v8 => hK19 _ _ _ _ h2))))))))
def mX18_takeWaiting_19 : Nat := 0xc0000000000000000000000000000000000000000000000000000000000000000000000000000000000000000000000000000000000000000000000000000000000000000000000000000000000000000000000000000000000000000000000000000000000000000000000000000000000000000000000000000000000000000000000000000000000000000000000000000000000000000000000000000000000000000000000000
theorem wX18_takeWaiting_19 {M : Nat} {z0 : St} {N : Nat}(hM : mX18_takeWaiting_19 &&& M = mX18_takeWaiting_19)  : ∀ (n : Nat) (y0 : Nat) (y1 : Int32) (y2 : Int32) (z : St), zFr M z0 z → zPw M z0 (fX18_takeWaiting_19 N n y0 y1 y2 z) := by
  intro n
  induction n with
  | zero => intro y0 y1 y2 z h; exact zw_n
  | succ n ih => intro y0 y1 y2 z h; exact wX18_takeWaiting_19b (ztr rfl hM)  (fun _ _ _ _ h => ih _ _ _ _ h) h
def mX18_takeWaiting : Nat := 0xc0000000000000000000000000000000000000000000001000000000000000000000000000000000000000000000000000000000000000000000000000000000000000000000000000000000000000000000000000000000000000000000000000000000000000000000000000000000000000000000000000000000000000000000000000000000000000000000000000000000000000000000000000000000000000000000000000
theorem wX18_takeWaiting {M : Nat} {N : Nat} {x0 : Nat} {x1 : Int32} {z0 z : St} (hM : mX18_takeWaiting &&& M = mX18_takeWaiting)  (h : zFr M z0 z) : zPw M z0 (fX18_takeWaiting N x0 x1 z) := by
  unfold fX18_takeWaiting
  exact zw_k (zw_l (fun v2 => zw_lI h (ztb hM rfl) (fun z3 h1 => wX18_takeWaiting_19 (ztr rfl hM)  _ _ _ _ _ h1)))
def mX19_of : Nat := 0x0
theorem wX19_of {M : Nat} {N : Nat} {x0 : Nat} {x1 : Int32} {x2 : Int32} {z0 z : St} (hM : mX19_of &&& M = mX19_of)  (h : zFr M z0 z) : zPw M z0 (fX19_of N x0 x1 x2 z) := by
  unfold fX19_of
  exact zw_k (zw_s h)
def mX19_set : Nat := 0x100000000000000000000000000000000000000000000000000000000000000000000000000000000000000000000000000000000000000000000000000000000000000000000000000000000000000000000000000000000000000000000000000000000000000000000000000000000000000000000000000000000000000000000000000000000000000000000000000000000000000000000000000000000000000000000000000
theorem wX19_set {M : Nat} {N : Nat} {x0 : Nat} {x1 : Int32} {x2 : Int32} {x3 : Int32} {z0 z : St} (hM : mX19_set &&& M = mX19_set)  (h : zFr M z0 z) : zPw M z0 (fX19_set N x0 x1 x2 x3 z) := by
  unfold fX19_set
  exact zw_k (zw_lA h (ztb hM rfl) (fun z2 h1 => zw_s h1))
def mX19_newDatagram_22b : Nat := 0x100000000000000000000000000000000000000000000000000000000000000000000000000000000000000000000000000000000000000000000000000000000000000000000000000000000000000000000000000000000000000000000000000000000000000000000000000000000000000000000000000000000000000000000000000000000000000000000000000000000000000000000000000000000000000000000000000
theorem wX19_newDatagram_22b {M : Nat} {N : Nat} {K22 : Nat → Int32 → Int32 → St → Option (Int32 × St)} {x0 : Nat} {x1 : Int32} {x2 : Int32} {z0 z : St} (hM : mX19_newDatagram_22b &&& M = mX19_newDatagram_22b)  (hK22 : ∀ a0 a1 a2 a3, zFr M z0 a3 → zPw M z0 (K22 a0 a1 a2 a3)) (h : zFr M z0 z) : zPw M z0 (fX19_newDatagram_22b N K22 x0 x1 x2 z) := by
  unfold fX19_newDatagram_22b
  exact zw_i (zw_c (wX19_set (ztr rfl hM)  h) (fun _ z3 h1 => zw_c (wX19_set (ztr rfl hM)  h1) (fun _ z7 h2 => zw_s h2))) (zw_k (zw_lA h (ztb hM rfl) (fun z11 h3 => zw_l (fun v12 => hK22 _ _ _ _ h3))))
def mX19_newDatagram_22 : Nat := 0x100000000000000000000000000000000000000000000000000000000000000000000000000000000000000000000000000000000000000000000000000000000000000000000000000000000000000000000000000000000000000000000000000000000000000000000000000000000000000000000000000000000000000000000000000000000000000000000000000000000000000000000000000000000000000000000000000
theorem wX19_newDatagram_22 {M : Nat} {z0 : St} {N : Nat}(hM : mX19_newDatagram_22 &&& M = mX19_newDatagram_22)  : ∀ (n : Nat) (y0 : Nat) (y1 : Int32) (y2 : Int32) (z : St), zFr M z0 z → zPw M z0 (fX19_newDatagram_22 N n y0 y1 y2 z) := by
  intro n
  induction n with
  | zero => intro y0 y1 y2 z h; exact zw_n
  | succ n ih => intro y0 y1 y2 z h; exact wX19_newDatagram_22b (ztr rfl hM)  (fun _ _ _ _ h => ih _ _ _ _ h) h
def mX19_newDatagram : Nat := 0x100000000000000000000000000000000040000000000000000000000000000000000000000000000000000000000000000000000000000000000000000000000000000000000000000000000000000000000000000000000000000000000000000000000000000000000000000000000000000000000000000000000000000000000000000000000000000000000000000000000000000000000000000000000000000000000000000
theorem wX19_newDatagram {M : Nat} {N : Nat} {x0 : Nat} {z0 z : St} (hM : mX19_newDatagram &&& M = mX19_newDatagram)  (h : zFr M z0 z) : zPw M z0 (fX19_newDatagram N x0 z) := by
  unfold fX19_newDatagram
  exact zw_lI h (ztb hM rfl) (fun z1 h1 => zw_k (zw_l (fun v3 => wX19_newDatagram_22 (ztr rfl hM)  _ _ _ _ _ h1)))
def mX19_copyOf_83 : Nat := 0x8000000000000000000000000000000000000000000000000000000000000000000000000000000000000000000000000000000000000000000000000000000000000000000000000000000000000000000000000000000000000000000000000000000000000000000000000000000000000000000000000000000000000000000000000000000000000000000000000000000000000000000000000000000000000000000000000000
theorem wX19_copyOf_83 {M : Nat} {N : Nat} {x0 : Nat} {x2 : Int32} {z0 z : St} (hM : mX19_copyOf_83 &&& M = mX19_copyOf_83)  (h : zFr M z0 z) : zPw M z0 (fX19_copyOf_83 N x0 x2 z) := by
  unfold fX19_copyOf_83
  exact zw_c (wX19_of (ztr rfl hM)  h) (fun r1 z2 h1 => zw_i (zw_s h1) (zw_c (wX19_of (ztr rfl hM)  h1) (fun r6 z7 h2 => zw_k (zw_k (zw_lA h2 (ztb hM rfl) (fun z12 h3 => zw_s h3))))))
def mX19_copyOf_22b : Nat := 0x9100000000000000000000000000000000000000000000000000000000000000000000000000000000000000000000000000000000000000000000000000000000000000000000000000000000000000000000000000000000000000000000000000000000000000000000000000000000000000000000000000000000000000000000000000000000000000000000000000000000000000000000000000000000000000000000000000
theorem wX19_copyOf_22b {M : Nat} {N : Nat} {K22 : Nat → Int32 → Int32 → Int32 → St → Option (Int32 × St)} {x0 : Nat} {x1 : Int32} {x2 : Int32} {x3 : Int32} {z0 z : St} (hM : mX19_copyOf_22b &&& M = mX19_copyOf_22b)  (hK22 : ∀ a0 a1 a2 a3 a4, zFr M z0 a4 → zPw M z0 (K22 a0 a1 a2 a3 a4)) (h : zFr M z0 z) : zPw M z0 (fX19_copyOf_22b N K22 x0 x1 x2 x3 z) := by
  unfold fX19_copyOf_22b
  exact zw_i (zw_c (wX19_of (ztr rfl hM)  h) (fun r2 z3 h1 => zw_i (wX19_copyOf_83 (ztr rfl hM)  h1) (zw_c (wX19_of (ztr rfl hM)  h1) (fun r7 z8 h2 => zw_k (zw_k (zw_lA h2 (ztb hM rfl) (fun z13 h3 => wX19_copyOf_83 (ztr rfl hM)  h3))))))) (zw_k (zw_k (zw_lA h (ztb hM rfl) (fun z16 h4 => zw_l (fun v17 => hK22 _ _ _ _ _ h4)))))
def mX19_copyOf_22 : Nat := 0x9100000000000000000000000000000000000000000000000000000000000000000000000000000000000000000000000000000000000000000000000000000000000000000000000000000000000000000000000000000000000000000000000000000000000000000000000000000000000000000000000000000000000000000000000000000000000000000000000000000000000000000000000000000000000000000000000000
theorem wX19_copyOf_22 {M : Nat} {z0 : St} {N : Nat}(hM : mX19_copyOf_22 &&& M = mX19_copyOf_22)  : ∀ (n : Nat) (y0 : Nat) (y1 : Int32) (y2 : Int32) (y3 : Int32) (z : St), zFr M z0 z → zPw M z0 (fX19_copyOf_22 N n y0 y1 y2 y3 z) := by
  intro n
  induction n with
  | zero => intro y0 y1 y2 y3 z h; exact zw_n
  | succ n ih => intro y0 y1 y2 y3 z h; exact wX19_copyOf_22b (ztr rfl hM)  (fun _ _ _ _ _ h => ih _ _ _ _ _ h) h
def mX19_copyOf : Nat := 0x9100000000000000000000000000000000040000000000000000000000000000000000000000000000000000000000000000000000000000000000000000000000000000000000000000000000000000000000000000000000000000000000000000000000000000000000000000000000000000000000000000000000000000000000000000000000000000000000000000000000000000000000000000000000000000000000000000
theorem wX19_copyOf {M : Nat} {N : Nat} {x0 : Nat} {x1 : Int32} {z0 z : St} (hM : mX19_copyOf &&& M = mX19_copyOf)  (h : zFr M z0 z) : zPw M z0 (fX19_copyOf N x0 x1 z) := by
  unfold fX19_copyOf
  exact zw_lI h (ztb hM rfl) (fun z1 h1 => zw_k (zw_l (fun v3 => wX19_copyOf_22 (ztr rfl hM)  _ _ _ _ _ _ h1)))
def mX19_dropAdvert : Nat := 0x18000000000000000000000000000000008000000000000000000000000000000000000000000000000000000000000000000000000000000000000000000000000000000000000000000000000000000000000000000000000000000000000000000000000000000000000000000000000000000000000000000000000000000000000000000000000000000000000000000000000000000000000000000000000000000000000000000
theorem wX19_dropAdvert {M : Nat} {N : Nat} {x0 : Nat} {x1 : Int32} {z0 z : St} (hM : mX19_dropAdvert &&& M = mX19_dropAdvert)  (h : zFr M z0 z) : zPw M z0 (fX19_dropAdvert N x0 x1 z) := by
  unfold fX19_dropAdvert
  exact zw_k (zw_k (zw_lA h (ztb hM rfl) (fun z3 h1 => zw_k (zw_i (zw_s h1) (zw_k (zw_lA h1 (ztb hM rfl) (fun z7 h2 => zw_lI h2 (ztb hM rfl) (fun z8 h3 => zw_s h3))))))))
def mX19_dropBook : Nat := 0x280000000000000000000000000000000200000000000000000000000000000000000000000000000000000000000000000000000000000000000000000000000000000000000000000000000000000000000000000000000000000000000000000000000000000000000000000000000000000000000000000000000000000000000000000000000000000000000000000000000000000000000000000000000000000000000000000000
theorem wX19_dropBook {M : Nat} {N : Nat} {x0 : Nat} {x1 : Int32} {z0 z : St} (hM : mX19_dropBook &&& M = mX19_dropBook)  (h : zFr M z0 z) : zPw M z0 (fX19_dropBook N x0 x1 z) := by
  unfold fX19_dropBook
  exact zw_i (zw_s h) (zw_k (zw_k (zw_lA h (ztb hM rfl) (fun z4 h1 => zw_k (zw_i (zw_s h1) (zw_k (zw_lA h1 (ztb hM rfl) (fun z8 h2 => zw_lI h2 (ztb hM rfl) (fun z9 h3 => zw_s h3)))))))))
def mX19_seg : Nat := 0x0
theorem wX19_seg {M : Nat} {N : Nat} {x0 : Nat} {x1 : Int32} {x2 : Int32} {z0 z : St} (hM : mX19_seg &&& M = mX19_seg)  (h : zFr M z0 z) : zPw M z0 (fX19_seg N x0 x1 x2 z) := by
  unfold fX19_seg
  exact zw_k (zw_s h)
def mX19_dropSegment : Nat := 0x283000000000000000000000000000000200800000000000000000000000000000000000000000000000000000000000000000000000000000000000000000000000000000000000000000000000000000000000000000000000000000000000000000000000000000000000000000000000000000000000000000000000000000000000000000000000000000000000000000000000000000000000000000000000000000000000000000
theorem wX19_dropSegment {M : Nat} {N : Nat} {x0 : Nat} {x1 : Int32} {z0 z : St} (hM : mX19_dropSegment &&& M = mX19_dropSegment)  (h : zFr M z0 z) : zPw M z0 (fX19_dropSegment N x0 x1 z) := by
  unfold fX19_dropSegment
  exact zw_k (zw_k (zw_lA h (ztb hM rfl) (fun z3 h1 => zw_k (zw_i (zw_s h1) (zw_c (wX19_seg (ztr rfl hM)  h1) (fun r6 z7 h2 => zw_c (wX19_dropBook (ztr rfl hM)  h2) (fun _ z11 h3 => zw_k (zw_lA h3 (ztb hM rfl) (fun z15 h4 => zw_lI h4 (ztb hM rfl) (fun z16 h5 => zw_s h5))))))))))
def mX19_drop_44 : Nat := 0x200000000000000000000000000000000040000000000000000000000000000000000000000000000000000000000000000000000000000000000000000000000000000000000000000000000000000000000000000000000000000000000000000000000000000000000000000000000000000000000000000000000000000000000000000000000000000000000000000000000000000000000000000000000000000000000000000
theorem wX19_drop_44 {M : Nat} {N : Nat} {x0 : Nat} {x1 : Int32} {z0 z : St} (hM : mX19_drop_44 &&& M = mX19_drop_44)  (h : zFr M z0 z) : zPw M z0 (fX19_drop_44 N x0 x1 z) := by
  unfold fX19_drop_44
  exact zw_k (zw_lA h (ztb hM rfl) (fun z2 h1 => zw_lI h1 (ztb hM rfl) (fun z3 h2 => zw_s h2)))
def mX19_drop_22 : Nat := 0x18200000000000000000000000000000008040000000000000000000000000000000000000000000000000000000000000000000000000000000000000000000000000000000000000000000000000000000000000000000000000000000000000000000000000000000000000000000000000000000000000000000000000000000000000000000000000000000000000000000000000000000000000000000000000000000000000000
theorem wX19_drop_22 {M : Nat} {N : Nat} {x0 : Nat} {x1 : Int32} {z0 z : St} (hM : mX19_drop_22 &&& M = mX19_drop_22)  (h : zFr M z0 z) : zPw M z0 (fX19_drop_22 N x0 x1 z) := by
  unfold fX19_drop_22
  exact zw_c (wX19_of (ztr rfl hM)  h) (fun r1 z2 h1 => zw_i (wX19_drop_44 (ztr rfl hM)  h1) (zw_c (wX19_of (ztr rfl hM)  h1) (fun r6 z7 h2 => zw_c (wX19_dropAdvert (ztr rfl hM)  h2) (fun _ z11 h3 => wX19_drop_44 (ztr rfl hM)  h3))))
def mX19_drop : Nat := 0x29b200000000000000000000000000000208840000000000000000000000000000000000000000000000000000000000000000000000000000000000000000000000000000000000000000000000000000000000000000000000000000000000000000000000000000000000000000000000000000000000000000000000000000000000000000000000000000000000000000000000000000000000000000000000000000000000000000
theorem wX19_drop {M : Nat} {N : Nat} {x0 : Nat} {x1 : Int32} {z0 z : St} (hM : mX19_drop &&& M = mX19_drop)  (h : zFr M z0 z) : zPw M z0 (fX19_drop N x0 x1 z) := by
  unfold fX19_drop
  exact zw_c (wX19_of (ztr rfl hM)  h) (fun r1 z2 h1 => zw_i (wX19_drop_22 (ztr rfl hM)  h1) (zw_c (wX19_of (ztr rfl hM)  h1) (fun r6 z7 h2 => zw_c (wX19_dropSegment (ztr rfl hM)  h2) (fun _ z11 h3 => wX19_drop_22 (ztr rfl hM)  h3))))
def mX19_setSeg : Nat := 0x400000000000000000000000000000000000000000000000000000000000000000000000000000000000000000000000000000000000000000000000000000000000000000000000000000000000000000000000000000000000000000000000000000000000000000000000000000000000000000000000000000000000000000000000000000000000000000000000000000000000000000000000000000000000000000000000000
theorem wX19_setSeg {M : Nat} {N : Nat} {x0 : Nat} {x1 : Int32} {x2 : Int32} {x3 : Int32} {z0 z : St} (hM : mX19_setSeg &&& M = mX19_setSeg)  (h : zFr M z0 z) : zPw M z0 (fX19_setSeg N x0 x1 x2 x3 z) := by
  unfold fX19_setSeg
  exact zw_k (zw_lA h (ztb hM rfl) (fun z2 h1 => zw_s h1))
def mX19_newSegment_23b : Nat := 0x1400000000000000000000000000000000000000000000000000000000000000000000000000000000000000000000000000000000000000000000000000000000000000000000000000000000000000000000000000000000000000000000000000000000000000000000000000000000000000000000000000000000000000000000000000000000000000000000000000000000000000000000000000000000000000000000000000
theorem wX19_newSegment_23b {M : Nat} {N : Nat} {K23 : Nat → Int32 → Int32 → Int32 → Int32 → St → Option (Int32 × St)} {x0 : Nat} {x1 : Int32} {x2 : Int32} {x3 : Int32} {x4 : Int32} {z0 z : St} (hM : mX19_newSegment_23b &&& M = mX19_newSegment_23b)  (hK23 : ∀ a0 a1 a2 a3 a4 a5, zFr M z0 a5 → zPw M z0 (K23 a0 a1 a2 a3 a4 a5)) (h : zFr M z0 z) : zPw M z0 (fX19_newSegment_23b N K23 x0 x1 x2 x3 x4 z) := by
  unfold fX19_newSegment_23b
  exact zw_i (zw_c (wX19_setSeg (ztr rfl hM)  h) (fun _ z3 h1 => zw_c (wX19_setSeg (ztr rfl hM)  h1) (fun _ z7 h2 => zw_c (wX19_setSeg (ztr rfl hM)  h2) (fun _ z11 h3 => zw_k (zw_lA h3 (ztb hM rfl) (fun z15 h4 => zw_s h4)))))) (zw_k (zw_lA h (ztb hM rfl) (fun z17 h5 => zw_l (fun v18 => hK23 _ _ _ _ _ _ h5))))
def mX19_newSegment_23 : Nat := 0x1400000000000000000000000000000000000000000000000000000000000000000000000000000000000000000000000000000000000000000000000000000000000000000000000000000000000000000000000000000000000000000000000000000000000000000000000000000000000000000000000000000000000000000000000000000000000000000000000000000000000000000000000000000000000000000000000000
theorem wX19_newSegment_23 {M : Nat} {z0 : St} {N : Nat}(hM : mX19_newSegment_23 &&& M = mX19_newSegment_23)  : ∀ (n : Nat) (y0 : Nat) (y1 : Int32) (y2 : Int32) (y3 : Int32) (y4 : Int32) (z : St), zFr M z0 z → zPw M z0 (fX19_newSegment_23 N n y0 y1 y2 y3 y4 z) := by
  intro n
  induction n with
  | zero => intro y0 y1 y2 y3 y4 z h; exact zw_n
  | succ n ih => intro y0 y1 y2 y3 y4 z h; exact wX19_newSegment_23b (ztr rfl hM)  (fun _ _ _ _ _ _ h => ih _ _ _ _ _ _ h) h
def mX19_newSegment : Nat := 0x1400000000000000000000000000000000800000000000000000000000000000000000000000000000000000000000000000000000000000000000000000000000000000000000000000000000000000000000000000000000000000000000000000000000000000000000000000000000000000000000000000000000000000000000000000000000000000000000000000000000000000000000000000000000000000000000000000
theorem wX19_newSegment {M : Nat} {N : Nat} {x0 : Nat} {x1 : Int32} {x2 : Int32} {z0 z : St} (hM : mX19_newSegment &&& M = mX19_newSegment)  (h : zFr M z0 z) : zPw M z0 (fX19_newSegment N x0 x1 x2 z) := by
  unfold fX19_newSegment
  exact zw_lI h (ztb hM rfl) (fun z1 h1 => zw_k (zw_l (fun v3 => wX19_newSegment_23 (ztr rfl hM)  _ _ _ _ _ _ _ h1)))
def mX19_setByte : Nat := 0x800000000000000000000000000000000000000000000000000000000000000000000000000000000000000000000000000000000000000000000000000000000000000000000000000000000000000000000000000000000000000000000000000000000000000000000000000000000000000000000000000000000000000000000000000000000000000000000000000000000000000000000000000000000000000000000000000
theorem wX19_setByte {M : Nat} {N : Nat} {x0 : Nat} {x1 : Int32} {x2 : Int32} {x3 : Int32} {z0 z : St} (hM : mX19_setByte &&& M = mX19_setByte)  (h : zFr M z0 z) : zPw M z0 (fX19_setByte N x0 x1 x2 x3 z) := by
  unfold fX19_setByte
  exact zw_l (fun v1 => zw_l (fun v2 => zw_k (zw_k (zw_lL h (ztb hM rfl) (fun z5 h1 => zw_s h1)))))
def mX19_byteOf : Nat := 0x0
theorem wX19_byteOf {M : Nat} {N : Nat} {x0 : Nat} {x1 : Int32} {x2 : Int32} {z0 z : St} (hM : mX19_byteOf &&& M = mX19_byteOf)  (h : zFr M z0 z) : zPw M z0 (fX19_byteOf N x0 x1 x2 z) := by
  unfold fX19_byteOf
  exact zw_k (zw_q (zw_s h))
def mX19_has : Nat := 0x0
theorem wX19_has {M : Nat} {N : Nat} {x0 : Nat} {x1 : Int32} {x2 : Int32} {z0 z : St} (hM : mX19_has &&& M = mX19_has)  (h : zFr M z0 z) : zPw M z0 (fX19_has N x0 x1 x2 z) := by
  unfold fX19_has
  exact zw_c (wX19_seg (ztr rfl hM)  h) (fun r1 z2 h1 => zw_i (zw_s h1) (zw_s h1))
def mX19_sizeOf_14 : Nat := 0x0
theorem wX19_sizeOf_14 {M : Nat} {N : Nat} {x0 : Nat} {x1 : Int32} {s0 : Int32} {z0 z : St} (hM : mX19_sizeOf_14 &&& M = mX19_sizeOf_14)  (h : zFr M z0 z) : zPw M z0 (fX19_sizeOf_14 N x0 x1 s0 z) := by
  unfold fX19_sizeOf_14
  exact zw_c (wX19_seg (ztr rfl hM)  h) (fun r1 z2 h1 => zw_c (wX19_has (ztr rfl hM)  h1) (fun r5 z6 h2 => zw_i (zw_s h2) (zw_s h2)))
def mX19_sizeOf : Nat := 0x0
theorem wX19_sizeOf {M : Nat} {N : Nat} {x0 : Nat} {x1 : Int32} {z0 z : St} (hM : mX19_sizeOf &&& M = mX19_sizeOf)  (h : zFr M z0 z) : zPw M z0 (fX19_sizeOf N x0 x1 z) := by
  unfold fX19_sizeOf
  exact zw_c (wX19_has (ztr rfl hM)  h) (fun r1 z2 h1 => zw_i (wX19_sizeOf_14 (ztr rfl hM)  h1) (wX19_sizeOf_14 (ztr rfl hM)  h1))
def mX19_ad : Nat := 0x0
theorem wX19_ad {M : Nat} {N : Nat} {x0 : Nat} {x1 : Int32} {x2 : Int32} {z0 z : St} (hM : mX19_ad &&& M = mX19_ad)  (h : zFr M z0 z) : zPw M z0 (fX19_ad N x0 x1 x2 z) := by
  unfold fX19_ad
  exact zw_k (zw_s h)
def mX19_newAdvert_22b : Nat := 0xc000000000000000000000000000000000000000000000000000000000000000000000000000000000000000000000000000000000000000000000000000000000000000000000000000000000000000000000000000000000000000000000000000000000000000000000000000000000000000000000000000000000000000000000000000000000000000000000000000000000000000000000000000000000000000000000000000
theorem wX19_newAdvert_22b {M : Nat} {N : Nat} {K22 : Nat → Int32 → Int32 → Int32 → St → Option (Int32 × St)} {x0 : Nat} {x1 : Int32} {x2 : Int32} {x3 : Int32} {z0 z : St} (hM : mX19_newAdvert_22b &&& M = mX19_newAdvert_22b)  (hK22 : ∀ a0 a1 a2 a3 a4, zFr M z0 a4 → zPw M z0 (K22 a0 a1 a2 a3 a4)) (h : zFr M z0 z) : zPw M z0 (fX19_newAdvert_22b N K22 x0 x1 x2 x3 z) := by
  unfold fX19_newAdvert_22b
  exact zw_i (zw_k (zw_lA h (ztb hM rfl) (fun z3 h1 => zw_k (zw_lA h1 (ztb hM rfl) (fun z5 h2 => zw_s h2))))) (zw_k (zw_lA h (ztb hM rfl) (fun z7 h3 => zw_l (fun v8 => hK22 _ _ _ _ _ h3))))
def mX19_newAdvert_22 : Nat := 0xc000000000000000000000000000000000000000000000000000000000000000000000000000000000000000000000000000000000000000000000000000000000000000000000000000000000000000000000000000000000000000000000000000000000000000000000000000000000000000000000000000000000000000000000000000000000000000000000000000000000000000000000000000000000000000000000000000
theorem wX19_newAdvert_22 {M : Nat} {z0 : St} {N : Nat}(hM : mX19_newAdvert_22 &&& M = mX19_newAdvert_22)  : ∀ (n : Nat) (y0 : Nat) (y1 : Int32) (y2 : Int32) (y3 : Int32) (z : St), zFr M z0 z → zPw M z0 (fX19_newAdvert_22 N n y0 y1 y2 y3 z) := by
  intro n
  induction n with
  | zero => intro y0 y1 y2 y3 z h; exact zw_n
  | succ n ih => intro y0 y1 y2 y3 z h; exact wX19_newAdvert_22b (ztr rfl hM)  (fun _ _ _ _ _ h => ih _ _ _ _ _ h) h
def mX19_newAdvert : Nat := 0xc000000000000000000000000000000008000000000000000000000000000000000000000000000000000000000000000000000000000000000000000000000000000000000000000000000000000000000000000000000000000000000000000000000000000000000000000000000000000000000000000000000000000000000000000000000000000000000000000000000000000000000000000000000000000000000000000000
theorem wX19_newAdvert {M : Nat} {N : Nat} {x0 : Nat} {x1 : Int32} {z0 z : St} (hM : mX19_newAdvert &&& M = mX19_newAdvert)  (h : zFr M z0 z) : zPw M z0 (fX19_newAdvert N x0 x1 z) := by
  unfold fX19_newAdvert
  exact zw_lI h (ztb hM rfl) (fun z1 h1 => zw_k (zw_l (fun v3 => wX19_newAdvert_22 (ztr rfl hM)  _ _ _ _ _ _ h1)))
def mX19_netRow : Nat := 0x0
theorem wX19_netRow {M : Nat} {N : Nat} {x0 : Nat} {x1 : Int32} {x2 : Int32} {x3 : Int32} {z0 z : St} (hM : mX19_netRow &&& M = mX19_netRow)  (h : zFr M z0 z) : zPw M z0 (fX19_netRow N x0 x1 x2 x3 z) := by
  unfold fX19_netRow
  exact zw_k (zw_s h)
def mX19_friendRow : Nat := 0x0
theorem wX19_friendRow {M : Nat} {N : Nat} {x0 : Nat} {x1 : Int32} {x2 : Int32} {x3 : Int32} {z0 z : St} (hM : mX19_friendRow &&& M = mX19_friendRow)  (h : zFr M z0 z) : zPw M z0 (fX19_friendRow N x0 x1 x2 x3 z) := by
  unfold fX19_friendRow
  exact zw_c (wX19_ad (ztr rfl hM)  h) (fun r1 z2 h1 => zw_c (wX19_netRow (ztr rfl hM)  h1) (fun r5 z6 h2 => zw_s h2))
def mX19_tellAlike_82 : Nat := 0x0
theorem wX19_tellAlike_82 {M : Nat} {N : Nat} {K39 : Nat → Int32 → Int32 → Int32 → Int32 → St → Option (Int32 × St)} {x0 : Nat} {x1 : Int32} {x2 : Int32} {x4 : Int32} {s0 : Int32} {z0 z : St} (hM : mX19_tellAlike_82 &&& M = mX19_tellAlike_82)  (hK39 : ∀ a0 a1 a2 a3 a4 a5, zFr M z0 a5 → zPw M z0 (K39 a0 a1 a2 a3 a4 a5)) (h : zFr M z0 z) : zPw M z0 (fX19_tellAlike_82 N K39 x0 x1 x2 x4 s0 z) := by
  unfold fX19_tellAlike_82
  exact zw_l (fun v1 => hK39 _ _ _ _ _ _ h)
def mX19_tellAlike_39b : Nat := 0x0
theorem wX19_tellAlike_39b {M : Nat} {N : Nat} {K39 : Nat → Int32 → Int32 → Int32 → Int32 → St → Option (Int32 × St)} {x0 : Nat} {x1 : Int32} {x2 : Int32} {x3 : Int32} {x4 : Int32} {z0 z : St} (hM : mX19_tellAlike_39b &&& M = mX19_tellAlike_39b)  (hK39 : ∀ a0 a1 a2 a3 a4 a5, zFr M z0 a5 → zPw M z0 (K39 a0 a1 a2 a3 a4 a5)) (h : zFr M z0 z) : zPw M z0 (fX19_tellAlike_39b N K39 x0 x1 x2 x3 x4 z) := by
  unfold fX19_tellAlike_39b
  exact zw_i (zw_q (zw_s h)) (zw_i (zw_q (zw_s h)) (zw_k (zw_k (zw_i (wX19_tellAlike_82 (ztr rfl hM) hK39 h) (wX19_tellAlike_82 (ztr rfl hM) hK39 h)))))
def mX19_tellAlike_39 : Nat := 0x0
theorem wX19_tellAlike_39 {M : Nat} {z0 : St} {N : Nat}(hM : mX19_tellAlike_39 &&& M = mX19_tellAlike_39)  : ∀ (n : Nat) (y0 : Nat) (y1 : Int32) (y2 : Int32) (y3 : Int32) (y4 : Int32) (z : St), zFr M z0 z → zPw M z0 (fX19_tellAlike_39 N n y0 y1 y2 y3 y4 z) := by
  intro n
  induction n with
  | zero => intro y0 y1 y2 y3 y4 z h; exact zw_n
  | succ n ih => intro y0 y1 y2 y3 y4 z h; exact wX19_tellAlike_39b (ztr rfl hM)  (fun _ _ _ _ _ _ h => ih _ _ _ _ _ _ h) h
def mX19_tellAlike_35 : Nat := 0x0
theorem wX19_tellAlike_35 {M : Nat} {N : Nat} {x0 : Nat} {x1 : Int32} {x2 : Int32} {s0 : Int32} {z0 z : St} (hM : mX19_tellAlike_35 &&& M = mX19_tellAlike_35)  (h : zFr M z0 z) : zPw M z0 (fX19_tellAlike_35 N x0 x1 x2 s0 z) := by
  unfold fX19_tellAlike_35
  exact wX19_tellAlike_39 (ztr rfl hM)  _ _ _ _ _ _ _ h
def mX19_tellAlike_34 : Nat := 0x0
theorem wX19_tellAlike_34 {M : Nat} {N : Nat} {x0 : Nat} {x1 : Int32} {x2 : Int32} {z0 z : St} (hM : mX19_tellAlike_34 &&& M = mX19_tellAlike_34)  (h : zFr M z0 z) : zPw M z0 (fX19_tellAlike_34 N x0 x1 x2 z) := by
  unfold fX19_tellAlike_34
  exact wX19_tellAlike_35 (ztr rfl hM)  h
def mX19_tellAlike : Nat := 0x0
theorem wX19_tellAlike {M : Nat} {N : Nat} {x0 : Nat} {x1 : Int32} {x2 : Int32} {z0 z : St} (hM : mX19_tellAlike &&& M = mX19_tellAlike)  (h : zFr M z0 z) : zPw M z0 (fX19_tellAlike N x0 x1 x2 z) := by
  unfold fX19_tellAlike
  exact zw_c (wX19_ad (ztr rfl hM)  h) (fun r1 z2 h1 => zw_c (wX19_ad (ztr rfl hM)  h1) (fun r5 z6 h2 => zw_i (wX19_tellAlike_34 (ztr rfl hM)  h2) (zw_c (wX19_ad (ztr rfl hM)  h2) (fun r10 z11 h3 => zw_c (wX19_ad (ztr rfl hM)  h3) (fun r14 z15 h4 => zw_i (wX19_tellAlike_34 (ztr rfl hM)  h4) (wX19_tellAlike_35 (ztr rfl hM)  h4))))))
def mX19_costTo_47 : Nat := 0x0
theorem wX19_costTo_47 {M : Nat} {N : Nat} {K3 : Nat → Int32 → Int32 → Int32 → Int32 → St → Option (Int32 × St)} {x0 : Nat} {x1 : Int32} {x2 : Int32} {x3 : Int32} {x4 : Int32} {z0 z : St} (hM : mX19_costTo_47 &&& M = mX19_costTo_47)  (hK3 : ∀ a0 a1 a2 a3 a4 a5, zFr M z0 a5 → zPw M z0 (K3 a0 a1 a2 a3 a4 a5)) (h : zFr M z0 z) : zPw M z0 (fX19_costTo_47 N K3 x0 x1 x2 x3 x4 z) := by
  unfold fX19_costTo_47
  exact zw_l (fun v1 => hK3 _ _ _ _ _ _ h)
def mX19_costTo_3b : Nat := 0x0
theorem wX19_costTo_3b {M : Nat} {N : Nat} {K3 : Nat → Int32 → Int32 → Int32 → Int32 → St → Option (Int32 × St)} {x0 : Nat} {x1 : Int32} {x2 : Int32} {x3 : Int32} {x4 : Int32} {z0 z : St} (hM : mX19_costTo_3b &&& M = mX19_costTo_3b)  (hK3 : ∀ a0 a1 a2 a3 a4 a5, zFr M z0 a5 → zPw M z0 (K3 a0 a1 a2 a3 a4 a5)) (h : zFr M z0 z) : zPw M z0 (fX19_costTo_3b N K3 x0 x1 x2 x3 x4 z) := by
  unfold fX19_costTo_3b
  exact zw_c (wX19_ad (ztr rfl hM)  h) (fun r1 z2 h1 => zw_i (zw_s h1) (zw_c (wX19_friendRow (ztr rfl hM)  h1) (fun r6 z7 h2 => zw_i (wX19_costTo_47 (ztr rfl hM) hK3 h2) (zw_c (wX19_friendRow (ztr rfl hM)  h2) (fun r11 z12 h3 => zw_i (wX19_costTo_47 (ztr rfl hM) hK3 h3) (zw_c (wX19_friendRow (ztr rfl hM)  h3) (fun r16 z17 h4 => zw_s h4)))))))
def mX19_costTo_3 : Nat := 0x0
theorem wX19_costTo_3 {M : Nat} {z0 : St} {N : Nat}(hM : mX19_costTo_3 &&& M = mX19_costTo_3)  : ∀ (n : Nat) (y0 : Nat) (y1 : Int32) (y2 : Int32) (y3 : Int32) (y4 : Int32) (z : St), zFr M z0 z → zPw M z0 (fX19_costTo_3 N n y0 y1 y2 y3 y4 z) := by
  intro n
  induction n with
  | zero => intro y0 y1 y2 y3 y4 z h; exact zw_n
  | succ n ih => intro y0 y1 y2 y3 y4 z h; exact wX19_costTo_3b (ztr rfl hM)  (fun _ _ _ _ _ _ h => ih _ _ _ _ _ _ h) h
def mX19_costTo : Nat := 0x0
theorem wX19_costTo {M : Nat} {N : Nat} {x0 : Nat} {x1 : Int32} {x2 : Int32} {x3 : Int32} {z0 z : St} (hM : mX19_costTo &&& M = mX19_costTo)  (h : zFr M z0 z) : zPw M z0 (fX19_costTo N x0 x1 x2 x3 z) := by
  unfold fX19_costTo
  exact wX19_costTo_3 (ztr rfl hM)  _ _ _ _ _ _ _ h
def mX19_costOn_2b : Nat := 0x0
theorem wX19_costOn_2b {M : Nat} {N : Nat} {K2 : Nat → Int32 → Int32 → Int32 → St → Option (Int32 × St)} {x0 : Nat} {x1 : Int32} {x2 : Int32} {x3 : Int32} {z0 z : St} (hM : mX19_costOn_2b &&& M = mX19_costOn_2b)  (hK2 : ∀ a0 a1 a2 a3 a4, zFr M z0 a4 → zPw M z0 (K2 a0 a1 a2 a3 a4)) (h : zFr M z0 z) : zPw M z0 (fX19_costOn_2b N K2 x0 x1 x2 x3 z) := by
  unfold fX19_costOn_2b
  exact zw_i (zw_s h) (zw_c (wX19_ad (ztr rfl hM)  h) (fun r2 z3 h1 => zw_i (zw_s h1) (zw_c (wX19_netRow (ztr rfl hM)  h1) (fun r7 z8 h2 => zw_i (zw_l (fun v12 => hK2 _ _ _ _ _ h2)) (zw_c (wX19_netRow (ztr rfl hM)  h2) (fun r13 z14 h3 => zw_s h3))))))
def mX19_costOn_2 : Nat := 0x0
theorem wX19_costOn_2 {M : Nat} {z0 : St} {N : Nat}(hM : mX19_costOn_2 &&& M = mX19_costOn_2)  : ∀ (n : Nat) (y0 : Nat) (y1 : Int32) (y2 : Int32) (y3 : Int32) (z : St), zFr M z0 z → zPw M z0 (fX19_costOn_2 N n y0 y1 y2 y3 z) := by
  intro n
  induction n with
  | zero => intro y0 y1 y2 y3 z h; exact zw_n
  | succ n ih => intro y0 y1 y2 y3 z h; exact wX19_costOn_2b (ztr rfl hM)  (fun _ _ _ _ _ h => ih _ _ _ _ _ h) h
def mX19_costOn : Nat := 0x0
theorem wX19_costOn {M : Nat} {N : Nat} {x0 : Nat} {x1 : Int32} {x2 : Int32} {z0 z : St} (hM : mX19_costOn &&& M = mX19_costOn)  (h : zFr M z0 z) : zPw M z0 (fX19_costOn N x0 x1 x2 z) := by
  unfold fX19_costOn
  exact wX19_costOn_2 (ztr rfl hM)  _ _ _ _ _ _ h
def mX19_newBook : Nat := 0x1c0000000000000000000000000000000200000000000000000000000000000000000000000000000000000000000000000000000000000000000000000000000000000000000000000000000000000000000000000000000000000000000000000000000000000000000000000000000000000000000000000000000000000000000000000000000000000000000000000000000000000000000000000000000000000000000000000000
theorem wX19_newBook {M : Nat} {N : Nat} {x0 : Nat} {z0 z : St} (hM : mX19_newBook &&& M = mX19_newBook)  (h : zFr M z0 z) : zPw M z0 (fX19_newBook N x0 z) := by
  unfold fX19_newBook
  exact zw_lI h (ztb hM rfl) (fun z1 h1 => zw_k (zw_l (fun v3 => zw_k (zw_lA h1 (ztb hM rfl) (fun z5 h2 => zw_k (zw_lA h2 (ztb hM rfl) (fun z7 h3 => zw_k (zw_k (zw_lA h3 (ztb hM rfl) (fun z10 h4 => zw_s h4))))))))))
def mX19_writeDown : Nat := 0x60000000000000000000000000000000000000000000000000000000000000000000000000000000000000000000000000000000000000000000000000000000000000000000000000000000000000000000000000000000000000000000000000000000000000000000000000000000000000000000000000000000000000000000000000000000000000000000000000000000000000000000000000000000000000000000000000000
theorem wX19_writeDown {M : Nat} {N : Nat} {x0 : Nat} {x1 : Int32} {x2 : Int32} {z0 z : St} (hM : mX19_writeDown &&& M = mX19_writeDown)  (h : zFr M z0 z) : zPw M z0 (fX19_writeDown N x0 x1 x2 z) := by
  unfold fX19_writeDown
  exact zw_k (zw_l (fun v2 => zw_l (fun v3 => zw_l (fun v4 => zw_k (zw_k (zw_lL h (ztb hM rfl) (fun z7 h1 => zw_k (zw_k (zw_lA h1 (ztb hM rfl) (fun z10 h2 => zw_s h2))))))))))
def mX19_written : Nat := 0x0
theorem wX19_written {M : Nat} {N : Nat} {x0 : Nat} {x1 : Int32} {x2 : Int32} {z0 z : St} (hM : mX19_written &&& M = mX19_written)  (h : zFr M z0 z) : zPw M z0 (fX19_written N x0 x1 x2 z) := by
  unfold fX19_written
  exact zw_l (fun v1 => zw_k (zw_s h))
def mX19_thrown : Nat := 0x0
theorem wX19_thrown {M : Nat} {N : Nat} {x0 : Nat} {z0 z : St} (hM : mX19_thrown &&& M = mX19_thrown)  (h : zFr M z0 z) : zPw M z0 (fX19_thrown N x0 z) := by
  unfold fX19_thrown
  exact zw_s h
def mX19_stir : Nat := 0x80000000000000000000000000000000000000000000000000000000000000000000000000000000000000000000000000000000000000000000000000000000000000000000000000000000000000000000000000000000000000000000000000000000000000000000000000000000000000000000000000000000000000000000000000000000000000000000000000000000000000000000000
theorem wX19_stir {M : Nat} {N : Nat} {x0 : Nat} {z0 z : St} (hM : mX19_stir &&& M = mX19_stir)  (h : zFr M z0 z) : zPw M z0 (fX19_stir N x0 z) := by
  unfold fX19_stir
  exact zw_lI h (ztb hM rfl) (fun z1 h1 => zw_s h1)
def mX19_frame_91 : Nat := 0x1000000000000000000000000000000008000000000000000000000000000000000000000000000000000000000000000000000000000000000000000000000000000000000000000000000000000000000000000000000000000000000000000000000000000000000000000000000000000000000000000000000000000000000000000000000000000000000000000000000000000000000000000000000000000000000000000000000
theorem wX19_frame_91 {M : Nat} {N : Nat} {x0 : Nat} {x6 : Int32} {x7 : Int32} {s0 : Nat} {s1 : Int32} {s2 : Int32} {z0 z : St} (hM : mX19_frame_91 &&& M = mX19_frame_91)  (h : zFr M z0 z) : zPw M z0 (fX19_frame_91 N x0 x6 x7 s0 s1 s2 z) := by
  unfold fX19_frame_91
  exact zw_k (zw_lA h (ztb hM rfl) (fun z2 h1 => zw_k (zw_lA h1 (ztb hM rfl) (fun z4 h2 => zw_lI h2 (ztb hM rfl) (fun z5 h3 => zw_s h3)))))
def mX19_frame : Nat := 0x1009100000000000000000000000000008000040000000000000000000000000000000000000000000000000000000000000000000000000000000000000000000000000000000000000000000000000000000000000000000000000000000000000000000000000000000000000000000000000000000000000000000000000000000000000000000000000000000000000000000000000000000000000000000000000000000000000000
theorem wX19_frame {M : Nat} {N : Nat} {x0 : Nat} {x1 : Nat} {x2 : Int32} {x3 : Int32} {x4 : Int32} {x5 : Int32} {x6 : Int32} {z0 z : St} (hM : mX19_frame &&& M = mX19_frame)  (h : zFr M z0 z) : zPw M z0 (fX19_frame N x0 x1 x2 x3 x4 x5 x6 z) := by
  unfold fX19_frame
  exact zw_l (fun v1 => zw_l (fun y2 => zw_d (fun a3 => zw_k (zw_lA h (ztb hM rfl) (fun z5 h1 => zw_k (zw_lA h1 (ztb hM rfl) (fun z7 h2 => zw_k (zw_lA h2 (ztb hM rfl) (fun z9 h3 => zw_k (zw_lA h3 (ztb hM rfl) (fun z11 h4 => zw_k (zw_lA h4 (ztb hM rfl) (fun z13 h5 => zw_i (zw_c (wX19_copyOf (ztr rfl hM)  h5) (fun r15 z16 h6 => wX19_frame_91 (ztr rfl hM)  h6)) (wX19_frame_91 (ztr rfl hM)  h5))))))))))))))
def mX19_put_205 : Nat := 0x1009100000000000000000000000000008000040000000000000000000000000000000000000000000000000000000000000000000000000000000000000000000000000000000000000000000000000000000000000000000000000000000000000000000000000000000000000000000000000000000000000000000000000000000000000000000000000000000000000000000000000000000000000000000000000000000000000000
theorem wX19_put_205 {M : Nat} {N : Nat} {x0 : Nat} {x1 : Nat} {x2 : Int32} {x3 : Int32} {x4 : Int32} {x5 : Int32} {x6 : Nat} {x7 : Int32} {z0 z : St} (hM : mX19_put_205 &&& M = mX19_put_205)  (h : zFr M z0 z) : zPw M z0 (fX19_put_205 N x0 x1 x2 x3 x4 x5 x6 x7 z) := by
  unfold fX19_put_205
  exact zw_i (zw_s h) (zw_c (wX19_frame (ztr rfl hM)  h) (fun _ z3 h1 => zw_s h1))
def mX19_put_176 : Nat := 0x1009100000000000000000000000000008000040000000000000000000000000000000000000000000000000000000000000000000000000000000000000000000000000000000000000000000000000000000000000000000000000000000000000000000000000000000000000000000000000000000000000000000000000000000000000000000000000000000000000000000000000000000000000000000000000000000000000000
theorem wX19_put_176 {M : Nat} {N : Nat} {x0 : Nat} {x1 : Nat} {x2 : Int32} {x3 : Int32} {x4 : Int32} {x5 : Int32} {x6 : Nat} {x7 : Int32} {z0 z : St} (hM : mX19_put_176 &&& M = mX19_put_176)  (h : zFr M z0 z) : zPw M z0 (fX19_put_176 N x0 x1 x2 x3 x4 x5 x6 x7 z) := by
  unfold fX19_put_176
  exact zw_i (wX19_put_205 (ztr rfl hM)  h) (zw_c (wX19_frame (ztr rfl hM)  h) (fun _ z3 h1 => wX19_put_205 (ztr rfl hM)  h1))
def mX19_put_155 : Nat := 0x1009100000000000000000000000000008000040000000000000000000000000000000000000000000000000000000000000000000000000000000000000000000000000000000000000000000000000000000000000000000000000000000000000000000000000000000000000000000000000000000000000000000000000000000000000000000000000000000000000000000000000000000000000000000000000000000000000000
theorem wX19_put_155 {M : Nat} {N : Nat} {x0 : Nat} {x1 : Nat} {x2 : Int32} {x3 : Int32} {x4 : Int32} {x5 : Int32} {x6 : Nat} {x7 : Int32} {z0 z : St} (hM : mX19_put_155 &&& M = mX19_put_155)  (h : zFr M z0 z) : zPw M z0 (fX19_put_155 N x0 x1 x2 x3 x4 x5 x6 x7 z) := by
  unfold fX19_put_155
  exact zw_c (wX19_frame (ztr rfl hM)  h) (fun _ z2 h1 => wX19_put_176 (ztr rfl hM)  h1)
def mX19_put_124 : Nat := 0x1009100000000000000000000000000088000040000000000000000000000000000000000000000000000000000000000000000000000000000000000000000000000000000000000000000000000000000000000000000000000000000000000000000000000000000000000000000000000000000000000000000000000000000000000000000000000000000000000000000000000000000000000000000000000000000000000000000
theorem wX19_put_124 {M : Nat} {N : Nat} {x0 : Nat} {x1 : Nat} {x2 : Int32} {x3 : Int32} {x4 : Int32} {x5 : Int32} {x6 : Nat} {x7 : Int32} {s0 : Int32} {z0 z : St} (hM : mX19_put_124 &&& M = mX19_put_124)  (h : zFr M z0 z) : zPw M z0 (fX19_put_124 N x0 x1 x2 x3 x4 x5 x6 x7 s0 z) := by
  unfold fX19_put_124
  exact zw_i (zw_i (wX19_put_155 (ztr rfl hM)  h) (zw_i (wX19_put_176 (ztr rfl hM)  h) (wX19_put_155 (ztr rfl hM)  h))) (zw_c (wX19_stir (ztr rfl hM)  h) (fun _ z5 h1 => zw_s h1))
def mX19_put_103 : Nat := 0x1009100000000000000000000000000088000040000000000000000000000000000000000000000000000000000000000000000000000000000000000000000000000000000000000000000000000000000000000000000000000000000000000000000000000000000000000000000000000000000000000000000000000000000000000000000000000000000000000000000000000000000000000000000000000000000000000000000
theorem wX19_put_103 {M : Nat} {N : Nat} {x0 : Nat} {x1 : Nat} {x2 : Int32} {x3 : Int32} {x4 : Int32} {x5 : Int32} {x6 : Nat} {x7 : Int32} {z0 z : St} (hM : mX19_put_103 &&& M = mX19_put_103)  (h : zFr M z0 z) : zPw M z0 (fX19_put_103 N x0 x1 x2 x3 x4 x5 x6 x7 z) := by
  unfold fX19_put_103
  exact zw_i (zw_i (wX19_put_124 (ztr rfl hM)  h) (wX19_put_124 (ztr rfl hM)  h)) (wX19_put_124 (ztr rfl hM)  h)
def mX19_put_94 : Nat := 0x1009100000000000000000000000000088000040000000000000000000000000000000000000000000000000000000000000000000000000000000000000000000000000000000000000000000000000000000000000000000000000000000000000000000000000000000000000000000000000000000000000000000000000000000000000000000000000000000000000000000000000000000000000000000000000000000000000000
theorem wX19_put_94 {M : Nat} {N : Nat} {x0 : Nat} {x1 : Nat} {x2 : Int32} {x3 : Int32} {x4 : Int32} {x5 : Int32} {x6 : Nat} {x7 : Int32} {z0 z : St} (hM : mX19_put_94 &&& M = mX19_put_94)  (h : zFr M z0 z) : zPw M z0 (fX19_put_94 N x0 x1 x2 x3 x4 x5 x6 x7 z) := by
  unfold fX19_put_94
  exact zw_i (wX19_put_103 (ztr rfl hM)  h) (zw_c (wX19_stir (ztr rfl hM)  h) (fun _ z3 h1 => wX19_put_103 (ztr rfl hM)  h1))
def mX19_put_60b : Nat := 0x1009102000000000000000000000000088000040000000000000000000000000000000000000000000000000000000000000000000000000000000000000000000000000000000000000000000000000000000000000000000000000000000000000000000000000000000000000000000000000000000000000000000000000000000000000000000000000000000000000000000000000000000000000000000000000000000000000000
theorem wX19_put_60b {M : Nat} {N : Nat} {K60 : Nat → Nat → Int32 → Int32 → Int32 → Int32 → Nat → Int32 → Int32 → St → Option (Int32 × St)} {x0 : Nat} {x1 : Nat} {x2 : Int32} {x3 : Int32} {x4 : Int32} {x5 : Int32} {x6 : Nat} {x7 : Int32} {x8 : Int32} {z0 z : St} (hM : mX19_put_60b &&& M = mX19_put_60b)  (hK60 : ∀ a0 a1 a2 a3 a4 a5 a6 a7 a8 a9, zFr M z0 a9 → zPw M z0 (K60 a0 a1 a2 a3 a4 a5 a6 a7 a8 a9)) (h : zFr M z0 z) : zPw M z0 (fX19_put_60b N K60 x0 x1 x2 x3 x4 x5 x6 x7 x8 z) := by
  unfold fX19_put_60b
  exact zw_i (wX19_put_94 (ztr rfl hM)  h) (zw_k (zw_k (zw_lA h (ztb hM rfl) (fun z4 h1 => zw_l (fun v5 => hK60 _ _ _ _ _ _ _ _ _ _ h1)))))
def mX19_put_60 : Nat := 0x1009102000000000000000000000000088000040000000000000000000000000000000000000000000000000000000000000000000000000000000000000000000000000000000000000000000000000000000000000000000000000000000000000000000000000000000000000000000000000000000000000000000000000000000000000000000000000000000000000000000000000000000000000000000000000000000000000000
theorem wX19_put_60 {M : Nat} {z0 : St} {N : Nat}(hM : mX19_put_60 &&& M = mX19_put_60)  : ∀ (n : Nat) (y0 : Nat) (y1 : Nat) (y2 : Int32) (y3 : Int32) (y4 : Int32) (y5 : Int32) (y6 : Nat) (y7 : Int32) (y8 : Int32) (z : St), zFr M z0 z → zPw M z0 (fX19_put_60 N n y0 y1 y2 y3 y4 y5 y6 y7 y8 z) := by
  intro n
  induction n with
  | zero => intro y0 y1 y2 y3 y4 y5 y6 y7 y8 z h; exact zw_n
  | succ n ih => intro y0 y1 y2 y3 y4 y5 y6 y7 y8 z h; exact wX19_put_60b (ztr rfl hM)  (fun _ _ _ _ _ _ _ _ _ _ h => ih _ _ _ _ _ _ _ _ _ _ h) h
def mX19_put : Nat := 0x1009102000000000000000000000000088000040000000000000000000000000000000000000000000001800000000000000000000000000000000000000000000000000000000000000000000000000000000000000000000000000000000000000000000000000000000000000000000000000000000000000000000000000000000000000000000000000000000000000000000000000000000000000000000000000000000000000000
theorem wX19_put {M : Nat} {N : Nat} {x0 : Nat} {x1 : Nat} {x2 : Int32} {x3 : Int32} {x4 : Int32} {x5 : Int32} {z0 z : St} (hM : mX19_put &&& M = mX19_put)  (h : zFr M z0 z) : zPw M z0 (fX19_put N x0 x1 x2 x3 x4 x5 z) := by
  unfold fX19_put
  exact zw_l (fun y1 => zw_d (fun a2 => zw_lI h (ztb hM rfl) (fun z3 h1 => zw_i (zw_i (wX19_put_94 (ztr rfl hM)  h1) (zw_k (zw_l (fun v7 => zw_lI h1 (ztb hM rfl) (fun z8 h2 => wX19_put_60 (ztr rfl hM)  _ _ _ _ _ _ _ _ _ _ _ h2))))) (zw_s h1))))
def mX19_takeFrame_15b : Nat := 0x1000000000000000000000000000000000000000000000000000000000000000000000000000000000000000000000000000000000000000000000000000000000000000000000000000000000000000000000000000000000000000000000000000000000000000000000000000000000000000000000000000000000000000000000000000000000000000000000000000000000000000000000000000000000000000000000000000000
theorem wX19_takeFrame_15b {M : Nat} {N : Nat} {K15 : Nat → Int32 → St → Option (Int32 × St)} {x0 : Nat} {x2 : Int32} {z0 z : St} (hM : mX19_takeFrame_15b &&& M = mX19_takeFrame_15b)  (hK15 : ∀ a0 a1 a2, zFr M z0 a2 → zPw M z0 (K15 a0 a1 a2)) (h : zFr M z0 z) : zPw M z0 (fX19_takeFrame_15b N K15 x0 x2 z) := by
  unfold fX19_takeFrame_15b
  exact zw_i (zw_s h) (zw_k (zw_k (zw_lA h (ztb hM rfl) (fun z4 h1 => zw_l (fun v5 => hK15 _ _ _ h1)))))
def mX19_takeFrame_15 : Nat := 0x1000000000000000000000000000000000000000000000000000000000000000000000000000000000000000000000000000000000000000000000000000000000000000000000000000000000000000000000000000000000000000000000000000000000000000000000000000000000000000000000000000000000000000000000000000000000000000000000000000000000000000000000000000000000000000000000000000000
theorem wX19_takeFrame_15 {M : Nat} {z0 : St} {N : Nat}(hM : mX19_takeFrame_15 &&& M = mX19_takeFrame_15)  : ∀ (n : Nat) (y0 : Nat) (y1 : Int32) (z : St), zFr M z0 z → zPw M z0 (fX19_takeFrame_15 N n y0 y1 z) := by
  intro n
  induction n with
  | zero => intro y0 y1 z h; exact zw_n
  | succ n ih => intro y0 y1 z h; exact wX19_takeFrame_15b (ztr rfl hM)  (fun _ _ _ h => ih _ _ _ h) h
def mX19_takeFrame : Nat := 0x1000000000000000000000000000000008000000000000000000000000000000000000000000000000000000000000000000000000000000000000000000000000000000000000000000000000000000000000000000000000000000000000000000000000000000000000000000000000000000000000000000000000000000000000000000000000000000000000000000000000000000000000000000000000000000000000000000000
theorem wX19_takeFrame {M : Nat} {N : Nat} {x0 : Nat} {x1 : Int32} {z0 z : St} (hM : mX19_takeFrame &&& M = mX19_takeFrame)  (h : zFr M z0 z) : zPw M z0 (fX19_takeFrame N x0 x1 z) := by
  unfold fX19_takeFrame
  exact zw_lI h (ztb hM rfl) (fun z1 h1 => zw_l (fun v2 => wX19_takeFrame_15 (ztr rfl hM)  _ _ _ _ h1))
def mX19_carry_144 : Nat := 0x129b302000000000000000000000000088208840000000000000000000000000000000000000000000001800000000000000000000000000000000000000000000000000000000000000080000000000000000000000000000000000000000000000000000000000000000000000000000000000000000000000000000000000000000000000000000000000000000000000000000000000000000000000000000000000000000000000000
theorem wX19_carry_144 {M : Nat} {N : Nat} {K54 : Nat → Nat → Int32 → Int32 → Int32 → Int32 → Int32 → St → Option (Int32 × St)} {x0 : Nat} {x1 : Nat} {x2 : Int32} {x3 : Int32} {x5 : Int32} {x6 : Int32} {x7 : Int32} {x8 : Int32} {s0 : Nat} {s1 : Int32} {s2 : Int32} {s3 : Int32} {z0 z : St} (hM : mX19_carry_144 &&& M = mX19_carry_144)  (hK54 : ∀ a0 a1 a2 a3 a4 a5 a6 a7, zFr M z0 a7 → zPw M z0 (K54 a0 a1 a2 a3 a4 a5 a6 a7)) (h : zFr M z0 z) : zPw M z0 (fX19_carry_144 N K54 x0 x1 x2 x3 x5 x6 x7 x8 s0 s1 s2 s3 z) := by
  unfold fX19_carry_144
  exact zw_c (wX19_set (ztr rfl hM)  h) (fun _ z2 h1 => zw_c (wX19_set (ztr rfl hM)  h1) (fun _ z6 h2 => zw_l (fun y9 => zw_d (fun a10 => zw_lI h2 (ztb hM rfl) (fun z11 h3 => zw_c (wX19_put (ztr rfl hM)  h3) (fun _ z13 h4 => zw_c (wX19_drop (ztr rfl hM)  h4) (fun _ z17 h5 => zw_l (fun v20 => hK54 _ _ _ _ _ _ _ _ h5))))))))
def mX19_carry_139 : Nat := 0x129b302000000000000000000000000088208840000000000000000000000000000000000000000000001800000000000000000000000000000000000000000000000000000000000000080000000000000000000000000000000000000000000000000000000000000000000000000000000000000000000000000000000000000000000000000000000000000000000000000000000000000000000000000000000000000000000000000
theorem wX19_carry_139 {M : Nat} {N : Nat} {K54 : Nat → Nat → Int32 → Int32 → Int32 → Int32 → Int32 → St → Option (Int32 × St)} {x0 : Nat} {x1 : Nat} {x2 : Int32} {x3 : Int32} {x5 : Int32} {x6 : Int32} {x7 : Int32} {x8 : Int32} {s0 : Nat} {s1 : Int32} {s2 : Int32} {z0 z : St} (hM : mX19_carry_139 &&& M = mX19_carry_139)  (hK54 : ∀ a0 a1 a2 a3 a4 a5 a6 a7, zFr M z0 a7 → zPw M z0 (K54 a0 a1 a2 a3 a4 a5 a6 a7)) (h : zFr M z0 z) : zPw M z0 (fX19_carry_139 N K54 x0 x1 x2 x3 x5 x6 x7 x8 s0 s1 s2 z) := by
  unfold fX19_carry_139
  exact wX19_carry_144 (ztr rfl hM) hK54 h
def mX19_carry_110 : Nat := 0x129b302000000000000000000000000088208840000000000000000000000000000000000000000000001800000000000000000000000000000000000000000000000000000000000000080000000000000000000000000000000000000000000000000000000000000000000000000000000000000000000000000000000000000000000000000000000000000000000000000000000000000000000000000000000000000000000000000
theorem wX19_carry_110 {M : Nat} {N : Nat} {K54 : Nat → Nat → Int32 → Int32 → Int32 → Int32 → Int32 → St → Option (Int32 × St)} {x0 : Nat} {x1 : Nat} {x2 : Int32} {x3 : Int32} {x5 : Int32} {x6 : Int32} {x7 : Int32} {x8 : Int32} {s0 : Nat} {s1 : Int32} {s2 : Int32} {s3 : Int32} {z0 z : St} (hM : mX19_carry_110 &&& M = mX19_carry_110)  (hK54 : ∀ a0 a1 a2 a3 a4 a5 a6 a7, zFr M z0 a7 → zPw M z0 (K54 a0 a1 a2 a3 a4 a5 a6 a7)) (h : zFr M z0 z) : zPw M z0 (fX19_carry_110 N K54 x0 x1 x2 x3 x5 x6 x7 x8 s0 s1 s2 s3 z) := by
  unfold fX19_carry_110
  exact zw_c (wX19_set (ztr rfl hM)  h) (fun _ z2 h1 => zw_c (wX19_of (ztr rfl hM)  h1) (fun r5 z6 h2 => zw_i (wX19_carry_139 (ztr rfl hM) hK54 h2) (zw_i (wX19_carry_144 (ztr rfl hM) hK54 h2) (wX19_carry_139 (ztr rfl hM) hK54 h2))))
def mX19_carry_54b : Nat := 0x129b302000000000000000000000000088208840000000000000000000000000000000000000000000001800000000000000000000000000000000000000000000000000000000000000080000000000000000000000000000000000000000000000000000000000000000000000000000000000000000000000000000000000000000000000000000000000000000000000000000000000000000000000000000000000000000000000000
theorem wX19_carry_54b {M : Nat} {N : Nat} {K54 : Nat → Nat → Int32 → Int32 → Int32 → Int32 → Int32 → St → Option (Int32 × St)} {x0 : Nat} {x1 : Nat} {x2 : Int32} {x3 : Int32} {x5 : Int32} {x6 : Int32} {x7 : Int32} {z0 z : St} (hM : mX19_carry_54b &&& M = mX19_carry_54b)  (hK54 : ∀ a0 a1 a2 a3 a4 a5 a6 a7, zFr M z0 a7 → zPw M z0 (K54 a0 a1 a2 a3 a4 a5 a6 a7)) (h : zFr M z0 z) : zPw M z0 (fX19_carry_54b N K54 x0 x1 x2 x3 x5 x6 x7 z) := by
  unfold fX19_carry_54b
  exact zw_i (zw_s h) (zw_c (wX19_copyOf (ztr rfl hM)  h) (fun r2 z3 h1 => zw_c (wX19_of (ztr rfl hM)  h1) (fun r6 z7 h2 => zw_c (wX19_set (ztr rfl hM)  h2) (fun _ z11 h3 => zw_i (wX19_carry_110 (ztr rfl hM) hK54 h3) (wX19_carry_110 (ztr rfl hM) hK54 h3)))))
def mX19_carry_54 : Nat := 0x129b302000000000000000000000000088208840000000000000000000000000000000000000000000001800000000000000000000000000000000000000000000000000000000000000080000000000000000000000000000000000000000000000000000000000000000000000000000000000000000000000000000000000000000000000000000000000000000000000000000000000000000000000000000000000000000000000000
theorem wX19_carry_54 {M : Nat} {z0 : St} {N : Nat}(hM : mX19_carry_54 &&& M = mX19_carry_54)  : ∀ (n : Nat) (y0 : Nat) (y1 : Nat) (y2 : Int32) (y3 : Int32) (y4 : Int32) (y5 : Int32) (y6 : Int32) (z : St), zFr M z0 z → zPw M z0 (fX19_carry_54 N n y0 y1 y2 y3 y4 y5 y6 z) := by
  intro n
  induction n with
  | zero => intro y0 y1 y2 y3 y4 y5 y6 z h; exact zw_n
  | succ n ih => intro y0 y1 y2 y3 y4 y5 y6 z h; exact wX19_carry_54b (ztr rfl hM)  (fun _ _ _ _ _ _ _ _ h => ih _ _ _ _ _ _ _ _ h) h
def mX19_carry : Nat := 0x129b302000000000000000000000000088208840000000000000000000000000000000000000000000001800000000000000000000000000000000000000000000000000000000000000080000000000000000000000000000000000000000000000000000000000000000000000000000000000000000000000000000000000000000000000000000000000000000000000000000000000000000000000000000000000000000000000000
theorem wX19_carry {M : Nat} {N : Nat} {x0 : Nat} {x1 : Nat} {x2 : Int32} {x3 : Int32} {z0 z : St} (hM : mX19_carry &&& M = mX19_carry)  (h : zFr M z0 z) : zPw M z0 (fX19_carry N x0 x1 x2 x3 z) := by
  unfold fX19_carry
  exact zw_l (fun y1 => zw_d (fun a2 => zw_l (fun v3 => zw_c (wX19_of (ztr rfl hM)  h) (fun r4 z5 h1 => zw_i (zw_l (fun v9 => zw_c (wX19_of (ztr rfl hM)  h1) (fun r10 z11 h2 => wX19_carry_54 (ztr rfl hM)  _ _ _ _ _ _ _ _ _ h2))) (zw_c (wX19_put (ztr rfl hM)  h1) (fun _ z15 h3 => zw_s h3))))))
def mX19_knows : Nat := 0x0
theorem wX19_knows {M : Nat} {N : Nat} {x0 : Nat} {x1 : Nat} {x2 : Int32} {z0 z : St} (hM : mX19_knows &&& M = mX19_knows)  (h : zFr M z0 z) : zPw M z0 (fX19_knows N x0 x1 x2 z) := by
  unfold fX19_knows
  exact zw_k (zw_i (zw_s h) (zw_s h))
def mX19_ask : Nat := 0x1009102000000000000000000000000088000040000000000000000000000000000000000000000000001800000000000000000000000000000000000000000000000000000000000000000000000000000000000000000000000000000000000000000000000000000000000000000000000000000000000000000000000000000000000000000000000000000000000000000000000000000000000000000000000000000000000000000
theorem wX19_ask {M : Nat} {N : Nat} {x0 : Nat} {x1 : Nat} {x2 : Int32} {z0 z : St} (hM : mX19_ask &&& M = mX19_ask)  (h : zFr M z0 z) : zPw M z0 (fX19_ask N x0 x1 x2 z) := by
  unfold fX19_ask
  exact zw_l (fun y1 => zw_d (fun a2 => zw_c (wX19_put (ztr rfl hM)  h) (fun _ z4 h1 => zw_s h1)))
def mX19_deliver_102 : Nat := 0x29b2f0000000000000000000000000080208840000000000001200000000000000000000000000000000000000000000000000000000000000000000000000000000000000000000000000000000000000000000000000000000000000000000000000000000000000000000000000000000000000000000000000000000000000000000000000000000000000000000000000000000000000000000000000000000000000000000000000
theorem wX19_deliver_102 {M : Nat} {N : Nat} {x0 : Nat} {x1 : Nat} {z0 z : St} (hM : mX19_deliver_102 &&& M = mX19_deliver_102)  (h : zFr M z0 z) : zPw M z0 (fX19_deliver_102 N x0 x1 z) := by
  unfold fX19_deliver_102
  exact zw_i (zw_s h) (zw_k (zw_l (fun v3 => zw_c (wX18_takeWaiting (ztr rfl hM)  h) (fun r4 z5 h1 => zw_c (wX19_drop (ztr rfl hM)  h1) (fun _ z9 h2 => zw_c (wX19_stir (ztr rfl hM)  h2) (fun _ z13 h3 => zw_c (wX18_someWaitFor (ztr rfl hM)  h3) (fun r16 z17 h4 => zw_i (zw_s h4) (zw_c (wX18_askingOf (ztr rfl hM)  h4) (fun r21 z22 h5 => zw_c (wX18_endAsking (ztr rfl hM)  h5) (fun _ z26 h6 => zw_s h6))))))))))
def mX19_deliver : Nat := 0x129b3f2000000000000000000000000088208840000000000001200000000000000000000000000000001800000000000000000000000000000000000000000000000000000000000000080000000000000000000000000000000000000000000000000000000000000000000000000000000000000000000000000000000000000000000000000000000000000000000000000000000000000000000000000000000000000000000000000
theorem wX19_deliver {M : Nat} {N : Nat} {x0 : Nat} {x1 : Nat} {x2 : Int32} {x3 : Int32} {z0 z : St} (hM : mX19_deliver &&& M = mX19_deliver)  (h : zFr M z0 z) : zPw M z0 (fX19_deliver N x0 x1 x2 x3 z) := by
  unfold fX19_deliver
  exact zw_c (wX19_knows (ztr rfl hM)  h) (fun r1 z2 h1 => zw_i (zw_c (wX18_someWaitFor (ztr rfl hM)  h1) (fun r6 z7 h2 => zw_c (wX19_copyOf (ztr rfl hM)  h2) (fun r10 z11 h3 => zw_k (zw_lA h3 (ztb hM rfl) (fun z15 h4 => zw_k (zw_lA h4 (ztb hM rfl) (fun z17 h5 => zw_lI h5 (ztb hM rfl) (fun z18 h6 => zw_i (wX19_deliver_102 (ztr rfl hM)  h6) (zw_k (zw_lA h6 (ztb hM rfl) (fun z21 h7 => zw_k (zw_lA h7 (ztb hM rfl) (fun z23 h8 => zw_lI h8 (ztb hM rfl) (fun z24 h9 => zw_c (wX19_ask (ztr rfl hM)  h9) (fun _ z26 h10 => wX19_deliver_102 (ztr rfl hM)  h10))))))))))))))) (zw_c (wX19_carry (ztr rfl hM)  h1) (fun _ z30 h11 => zw_s h11)))
def mX19_firstWaiting_2b : Nat := 0xc0000000000000000000000000000000000000000000001000000000000000000000000000000000000000000000000000000000000000000000000000000000000000000000000000000000000000000000000000000000000000000000000000000000000000000000000000000000000000000000000000000000000000000000000000000000000000000000000000000000000000000000000000000000000000000000000000
theorem wX19_firstWaiting_2b {M : Nat} {N : Nat} {K2 : Nat → Int32 → Int32 → St → Option (Int32 × St)} {x1 : Nat} {x2 : Int32} {x3 : Int32} {z0 z : St} (hM : mX19_firstWaiting_2b &&& M = mX19_firstWaiting_2b)  (hK2 : ∀ a0 a1 a2 a3, zFr M z0 a3 → zPw M z0 (K2 a0 a1 a2 a3)) (h : zFr M z0 z) : zPw M z0 (fX19_firstWaiting_2b N K2 x1 x2 x3 z) := by
  unfold fX19_firstWaiting_2b
  exact zw_i (zw_s h) (zw_k (zw_i (zw_l (fun v4 => hK2 _ _ _ _ h)) (zw_c (wX18_takeWaiting (ztr rfl hM)  h) (fun r5 z6 h1 => zw_s h1))))
def mX19_firstWaiting_2 : Nat := 0xc0000000000000000000000000000000000000000000001000000000000000000000000000000000000000000000000000000000000000000000000000000000000000000000000000000000000000000000000000000000000000000000000000000000000000000000000000000000000000000000000000000000000000000000000000000000000000000000000000000000000000000000000000000000000000000000000000
theorem wX19_firstWaiting_2 {M : Nat} {z0 : St} {N : Nat}(hM : mX19_firstWaiting_2 &&& M = mX19_firstWaiting_2)  : ∀ (n : Nat) (y0 : Nat) (y1 : Int32) (y2 : Int32) (z : St), zFr M z0 z → zPw M z0 (fX19_firstWaiting_2 N n y0 y1 y2 z) := by
  intro n
  induction n with
  | zero => intro y0 y1 y2 z h; exact zw_n
  | succ n ih => intro y0 y1 y2 z h; exact wX19_firstWaiting_2b (ztr rfl hM)  (fun _ _ _ _ h => ih _ _ _ _ h) h
def mX19_firstWaiting : Nat := 0xc0000000000000000000000000000000000000000000001000000000000000000000000000000000000000000000000000000000000000000000000000000000000000000000000000000000000000000000000000000000000000000000000000000000000000000000000000000000000000000000000000000000000000000000000000000000000000000000000000000000000000000000000000000000000000000000000000
theorem wX19_firstWaiting {M : Nat} {N : Nat} {x0 : Nat} {x1 : Nat} {x2 : Int32} {z0 z : St} (hM : mX19_firstWaiting &&& M = mX19_firstWaiting)  (h : zFr M z0 z) : zPw M z0 (fX19_firstWaiting N x0 x1 x2 z) := by
  unfold fX19_firstWaiting
  exact wX19_firstWaiting_2 (ztr rfl hM)  _ _ _ _ _ h
def mX19_isOwn_2b : Nat := 0x0
theorem wX19_isOwn_2b {M : Nat} {N : Nat} {K2 : Nat → Int32 → Int32 → St → Option (Int32 × St)} {x1 : Nat} {x2 : Int32} {x3 : Int32} {z0 z : St} (hM : mX19_isOwn_2b &&& M = mX19_isOwn_2b)  (hK2 : ∀ a0 a1 a2 a3, zFr M z0 a3 → zPw M z0 (K2 a0 a1 a2 a3)) (h : zFr M z0 z) : zPw M z0 (fX19_isOwn_2b N K2 x1 x2 x3 z) := by
  unfold fX19_isOwn_2b
  exact zw_i (zw_s h) (zw_k (zw_l (fun y3 => zw_d (fun a4 => zw_c (wX18_address (ztr rfl hM)  h) (fun r5 z6 h1 => zw_i (zw_l (fun v10 => hK2 _ _ _ _ h1)) (zw_s h1))))))
def mX19_isOwn_2 : Nat := 0x0
theorem wX19_isOwn_2 {M : Nat} {z0 : St} {N : Nat}(hM : mX19_isOwn_2 &&& M = mX19_isOwn_2)  : ∀ (n : Nat) (y0 : Nat) (y1 : Int32) (y2 : Int32) (z : St), zFr M z0 z → zPw M z0 (fX19_isOwn_2 N n y0 y1 y2 z) := by
  intro n
  induction n with
  | zero => intro y0 y1 y2 z h; exact zw_n
  | succ n ih => intro y0 y1 y2 z h; exact wX19_isOwn_2b (ztr rfl hM)  (fun _ _ _ _ h => ih _ _ _ _ h) h
def mX19_isOwn : Nat := 0x0
theorem wX19_isOwn {M : Nat} {N : Nat} {x0 : Nat} {x1 : Nat} {x2 : Int32} {z0 z : St} (hM : mX19_isOwn &&& M = mX19_isOwn)  (h : zFr M z0 z) : zPw M z0 (fX19_isOwn N x0 x1 x2 z) := by
  unfold fX19_isOwn
  exact wX19_isOwn_2 (ztr rfl hM)  _ _ _ _ _ h
def mX19_act_100 : Nat := 0x0
theorem wX19_act_100 {M : Nat} {N : Nat} {K3 : Nat → Nat → Int32 → Int32 → Int32 → Int32 → Int32 → St → Option (Int32 × St)} {x0 : Nat} {x1 : Nat} {x2 : Int32} {x3 : Int32} {x4 : Int32} {x5 : Int32} {x6 : Int32} {z0 z : St} (hM : mX19_act_100 &&& M = mX19_act_100)  (hK3 : ∀ a0 a1 a2 a3 a4 a5 a6 a7, zFr M z0 a7 → zPw M z0 (K3 a0 a1 a2 a3 a4 a5 a6 a7)) (h : zFr M z0 z) : zPw M z0 (fX19_act_100 N K3 x0 x1 x2 x3 x4 x5 x6 z) := by
  unfold fX19_act_100
  exact zw_l (fun v1 => hK3 _ _ _ _ _ _ _ _ h)
def mX19_act_3b : Nat := 0x803d000000100000000000000000000000000000000000000000000000000000000000000000000000000000000000000000000000000000000000000000000000000000000000000000000000000000000000000000000000000000000000000000000000000000000000000000000000000000000
theorem wX19_act_3b {M : Nat} {N : Nat} {K3 : Nat → Nat → Int32 → Int32 → Int32 → Int32 → Int32 → St → Option (Int32 × St)} {x0 : Nat} {x1 : Nat} {x2 : Int32} {x3 : Int32} {x4 : Int32} {x5 : Int32} {x6 : Int32} {z0 z : St} (hM : mX19_act_3b &&& M = mX19_act_3b)  (hK3 : ∀ a0 a1 a2 a3 a4 a5 a6 a7, zFr M z0 a7 → zPw M z0 (K3 a0 a1 a2 a3 a4 a5 a6 a7)) (h : zFr M z0 z) : zPw M z0 (fX19_act_3b N K3 x0 x1 x2 x3 x4 x5 x6 z) := by
  unfold fX19_act_3b
  exact zw_i (zw_s h) (zw_i (zw_s h) (zw_k (zw_l (fun y4 => zw_d (fun a5 => zw_l (fun y6 => zw_k (zw_l (fun y8 => zw_d (fun a9 => zw_i (wX19_act_100 (ztr rfl hM) hK3 h) (zw_d (fun a11 => zw_i (wX19_act_100 (ztr rfl hM) hK3 h) (zw_c (wX19_isOwn (ztr rfl hM)  h) (fun r13 z14 h1 => zw_i (wX19_act_100 (ztr rfl hM) hK3 h1) (zw_i (wX19_act_100 (ztr rfl hM) hK3 h1) (zw_i (wX19_act_100 (ztr rfl hM) hK3 h1) (zw_i (wX19_act_100 (ztr rfl hM) hK3 h1) (zw_c (wX14_become (ztr rfl hM)  h1) (fun _ z22 h2 => wX19_act_100 (ztr rfl hM) hK3 h2))))))))))))))))))
def mX19_act_3 : Nat := 0x803d000000100000000000000000000000000000000000000000000000000000000000000000000000000000000000000000000000000000000000000000000000000000000000000000000000000000000000000000000000000000000000000000000000000000000000000000000000000000000
theorem wX19_act_3 {M : Nat} {z0 : St} {N : Nat}(hM : mX19_act_3 &&& M = mX19_act_3)  : ∀ (n : Nat) (y0 : Nat) (y1 : Nat) (y2 : Int32) (y3 : Int32) (y4 : Int32) (y5 : Int32) (y6 : Int32) (z : St), zFr M z0 z → zPw M z0 (fX19_act_3 N n y0 y1 y2 y3 y4 y5 y6 z) := by
  intro n
  induction n with
  | zero => intro y0 y1 y2 y3 y4 y5 y6 z h; exact zw_n
  | succ n ih => intro y0 y1 y2 y3 y4 y5 y6 z h; exact wX19_act_3b (ztr rfl hM)  (fun _ _ _ _ _ _ _ _ h => ih _ _ _ _ _ _ _ _ h) h
def mX19_act : Nat := 0x803d000000100000000000000000000000000000000000000000000000000000000000000000000000000000000000000000000000000000000000000000000000000000000000000000000000000000000000000000000000000000000000000000000000000000000000000000000000000000000
theorem wX19_act {M : Nat} {N : Nat} {x0 : Nat} {x1 : Nat} {x2 : Int32} {x3 : Int32} {x4 : Int32} {x5 : Int32} {z0 z : St} (hM : mX19_act &&& M = mX19_act)  (h : zFr M z0 z) : zPw M z0 (fX19_act N x0 x1 x2 x3 x4 x5 z) := by
  unfold fX19_act
  exact wX19_act_3 (ztr rfl hM)  _ _ _ _ _ _ _ _ _ h
def mX19_isAddress : Nat := 0x0
theorem wX19_isAddress {M : Nat} {N : Nat} {x0 : Nat} {x1 : Int32} {z0 z : St} (hM : mX19_isAddress &&& M = mX19_isAddress)  (h : zFr M z0 z) : zPw M z0 (fX19_isAddress N x0 x1 z) := by
  unfold fX19_isAddress
  exact zw_l (fun v1 => zw_i (zw_s h) (zw_i (zw_s h) (zw_i (zw_s h) (zw_i (zw_s h) (zw_s h)))))
def mX19_isOf : Nat := 0x0
theorem wX19_isOf {M : Nat} {N : Nat} {x0 : Int32} {x1 : Int32} {z0 z : St} (hM : mX19_isOf &&& M = mX19_isOf)  (h : zFr M z0 z) : zPw M z0 (fX19_isOf N x0 x1 z) := by
  unfold fX19_isOf
  exact zw_i (zw_s h) (zw_i (zw_s h) (zw_s h))
def mX19_hostSends_L1_82b : Nat := 0x129b3f2000000000000000000000000088208840000000000001200000000000000000000000000000001800000000000000000000000000000000000000000000000000000000000000080000000000000000000000000000000000000000000000000000000000000000000000000000000000000000000000000000000000000000000000000000000000000000000000000000000000000000000000000000000000000000000000000
theorem wX19_hostSends_L1_82b {M : Nat} {N : Nat} {K82 : Nat → Nat → Int32 → Nat → Int32 → St → Option (Int32 × St)} {x0 : Nat} {x1 : Nat} {x2 : Int32} {x3 : Nat} {x5 : Int32} {z0 z : St} (hM : mX19_hostSends_L1_82b &&& M = mX19_hostSends_L1_82b)  (hK82 : ∀ a0 a1 a2 a3 a4 a5, zFr M z0 a5 → zPw M z0 (K82 a0 a1 a2 a3 a4 a5)) (h : zFr M z0 z) : zPw M z0 (fX19_hostSends_L1_82b N K82 x0 x1 x2 x3 x5 z) := by
  unfold fX19_hostSends_L1_82b
  exact zw_l (fun y1 => zw_d (fun a2 => zw_i (zw_n) (zw_l (fun y4 => zw_d (fun a5 => zw_k (zw_l (fun y7 => zw_d (fun a8 => zw_l (fun y9 => zw_d (fun a10 => zw_i (zw_l (fun v12 => hK82 _ _ _ _ _ _ h)) (zw_c (wX19_deliver (ztr rfl hM)  h) (fun _ z14 h1 => zw_s h1))))))))))))
def mX19_hostSends_L1_82 : Nat := 0x129b3f2000000000000000000000000088208840000000000001200000000000000000000000000000001800000000000000000000000000000000000000000000000000000000000000080000000000000000000000000000000000000000000000000000000000000000000000000000000000000000000000000000000000000000000000000000000000000000000000000000000000000000000000000000000000000000000000000
theorem wX19_hostSends_L1_82 {M : Nat} {z0 : St} {N : Nat}(hM : mX19_hostSends_L1_82 &&& M = mX19_hostSends_L1_82)  : ∀ (n : Nat) (y0 : Nat) (y1 : Nat) (y2 : Int32) (y3 : Nat) (y4 : Int32) (z : St), zFr M z0 z → zPw M z0 (fX19_hostSends_L1_82 N n y0 y1 y2 y3 y4 z) := by
  intro n
  induction n with
  | zero => intro y0 y1 y2 y3 y4 z h; exact zw_n
  | succ n ih => intro y0 y1 y2 y3 y4 z h; exact wX19_hostSends_L1_82b (ztr rfl hM)  (fun _ _ _ _ _ _ h => ih _ _ _ _ _ _ h) h
def mX19_hostSends_L1 : Nat := 0x129b3f2000000000000000000000000088208840000000000001200000000000000000000000000000001800000000000000000000000000000000000000000000000000000000000000080000000000000000000000000000000000000000000000000000000000000000000000000000000000000000000000000000000000000000000000000000000000000000000000000000000000000000000000000000000000000000000000000
theorem wX19_hostSends_L1 {M : Nat} {N : Nat} {x0 : Nat} {x1 : Nat} {x2 : Int32} {z0 z : St} (hM : mX19_hostSends_L1 &&& M = mX19_hostSends_L1)  (h : zFr M z0 z) : zPw M z0 (fX19_hostSends_L1 N x0 x1 x2 z) := by
  unfold fX19_hostSends_L1
  exact zw_i (zw_k (zw_l (fun y3 => zw_c (wX19_set (ztr rfl hM)  h) (fun _ z5 h1 => zw_c (wX19_of (ztr rfl hM)  h1) (fun r8 z9 h2 => zw_d (fun a12 => zw_l (fun y13 => zw_d (fun a14 => zw_c (wX19_isOf (ztr rfl hM)  h2) (fun r15 z16 h3 => zw_i (wX19_hostSends_L1_82 (ztr rfl hM)  _ _ _ _ _ _ _ h3) (zw_c (wX19_isAddress (ztr rfl hM)  h3) (fun r20 z21 h4 => zw_i (zw_n) (zw_c (wX19_deliver (ztr rfl hM)  h4) (fun _ z26 h5 => zw_s h5))))))))))))) (zw_s h)
def mX19_make_72 : Nat := 0x100000000000000000000000000000000000000000000000000000000000000000000000000000000000000000000000000000000000000000000000000000000000000000000000000000000000000000000000000000000000000000000000000000000000000000000000000000000000000000000000000000000000000000000000000000000000000000000000000000000000000000000000000000000000000000000000000
theorem wX19_make_72 {M : Nat} {N : Nat} {x0 : Nat} {x3 : Int32} {x6 : Int32} {s0 : Nat} {s1 : Int32} {s2 : Int32} {s3 : Int32} {z0 z : St} (hM : mX19_make_72 &&& M = mX19_make_72)  (h : zFr M z0 z) : zPw M z0 (fX19_make_72 N x0 x3 x6 s0 s1 s2 s3 z) := by
  unfold fX19_make_72
  exact zw_c (wX19_set (ztr rfl hM)  h) (fun _ z2 h1 => zw_c (wX19_set (ztr rfl hM)  h1) (fun _ z6 h2 => zw_s h2))
def mX19_make_66 : Nat := 0x100000000000000000000000000000000000000000000000000000000000000000000000000000000000000000000000000000000000000000000000000000000000000000000000000000000000000000000000000000000000000000000000000000000000000000000000000000000000000000000000000000000000000000000000000000000000000000000000000000000000000000000000000000000000000000000000000
theorem wX19_make_66 {M : Nat} {N : Nat} {x0 : Nat} {x3 : Int32} {x6 : Int32} {s0 : Nat} {s1 : Int32} {s2 : Int32} {z0 z : St} (hM : mX19_make_66 &&& M = mX19_make_66)  (h : zFr M z0 z) : zPw M z0 (fX19_make_66 N x0 x3 x6 s0 s1 s2 z) := by
  unfold fX19_make_66
  exact wX19_make_72 (ztr rfl hM)  h
def mX19_make : Nat := 0x100000000000000000000000000000000040000000000000000000000000000000000000000000000000000000000000000000000000000000000000000000000000000000000000010000000000000000000000000000000000000000000000000000000000000000000000000000000000000000000000000000000000000000000000000000000000000000000000000000000000000000000000000000000000000000000000000
theorem wX19_make {M : Nat} {N : Nat} {x0 : Nat} {x1 : Nat} {x2 : Int32} {x3 : Int32} {x4 : Int32} {x5 : Int32} {z0 z : St} (hM : mX19_make &&& M = mX19_make)  (h : zFr M z0 z) : zPw M z0 (fX19_make N x0 x1 x2 x3 x4 x5 z) := by
  unfold fX19_make
  exact zw_c (wX19_newDatagram (ztr rfl hM)  h) (fun r1 z2 h1 => zw_c (wX19_set (ztr rfl hM)  h1) (fun _ z6 h2 => zw_c (wX19_set (ztr rfl hM)  h2) (fun _ z10 h3 => zw_c (wX19_set (ztr rfl hM)  h3) (fun _ z14 h4 => zw_c (wX19_set (ztr rfl hM)  h4) (fun _ z18 h5 => zw_lI h5 (ztb hM rfl) (fun z21 h6 => zw_i (wX19_make_66 (ztr rfl hM)  h6) (zw_i (wX19_make_72 (ztr rfl hM)  h6) (wX19_make_66 (ztr rfl hM)  h6))))))))
def mX19_stationOf_2b : Nat := 0x0
theorem wX19_stationOf_2b {M : Nat} {N : Nat} {K2 : Nat → Nat → Int32 → St → Option (Int32 × St)} {x0 : Nat} {x1 : Nat} {x2 : Int32} {z0 z : St} (hM : mX19_stationOf_2b &&& M = mX19_stationOf_2b)  (hK2 : ∀ a0 a1 a2 a3, zFr M z0 a3 → zPw M z0 (K2 a0 a1 a2 a3)) (h : zFr M z0 z) : zPw M z0 (fX19_stationOf_2b N K2 x0 x1 x2 z) := by
  unfold fX19_stationOf_2b
  exact zw_i (zw_s h) (zw_k (zw_l (fun y3 => zw_d (fun a4 => zw_l (fun y5 => zw_i (zw_l (fun v7 => hK2 _ _ _ _ h)) (zw_k (zw_l (fun y9 => zw_d (fun a10 => zw_s h)))))))))
def mX19_stationOf_2 : Nat := 0x0
theorem wX19_stationOf_2 {M : Nat} {z0 : St} {N : Nat}(hM : mX19_stationOf_2 &&& M = mX19_stationOf_2)  : ∀ (n : Nat) (y0 : Nat) (y1 : Nat) (y2 : Int32) (z : St), zFr M z0 z → zPw M z0 (fX19_stationOf_2 N n y0 y1 y2 z) := by
  intro n
  induction n with
  | zero => intro y0 y1 y2 z h; exact zw_n
  | succ n ih => intro y0 y1 y2 z h; exact wX19_stationOf_2b (ztr rfl hM)  (fun _ _ _ _ h => ih _ _ _ _ h) h
def mX19_stationOf : Nat := 0x0
theorem wX19_stationOf {M : Nat} {N : Nat} {x0 : Nat} {x1 : Nat} {z0 z : St} (hM : mX19_stationOf &&& M = mX19_stationOf)  (h : zFr M z0 z) : zPw M z0 (fX19_stationOf N x0 x1 z) := by
  unfold fX19_stationOf
  exact wX19_stationOf_2 (ztr rfl hM)  _ _ _ _ _ h
def mX19_routerSends_L1_39 : Nat := 0x0
theorem wX19_routerSends_L1_39 {M : Nat} {N : Nat} {x0 : Nat} {x1 : Nat} {x2 : Int32} {z0 z : St} (hM : mX19_routerSends_L1_39 &&& M = mX19_routerSends_L1_39)  (h : zFr M z0 z) : zPw M z0 (fX19_routerSends_L1_39 N x0 x1 x2 z) := by
  unfold fX19_routerSends_L1_39
  exact zw_n
def mX19_routerSends_L1_96 : Nat := 0x0
theorem wX19_routerSends_L1_96 {M : Nat} {N : Nat} {K52 : Nat → Nat → Int32 → Int32 → Int32 → Int32 → Option Nat → Int32 → St → Option (Int32 × St)} {x0 : Nat} {x1 : Nat} {x2 : Int32} {x3 : Int32} {x4 : Int32} {x5 : Int32} {x7 : Int32} {s0 : Option Nat} {z0 z : St} (hM : mX19_routerSends_L1_96 &&& M = mX19_routerSends_L1_96)  (hK52 : ∀ a0 a1 a2 a3 a4 a5 a6 a7 a8, zFr M z0 a8 → zPw M z0 (K52 a0 a1 a2 a3 a4 a5 a6 a7 a8)) (h : zFr M z0 z) : zPw M z0 (fX19_routerSends_L1_96 N K52 x0 x1 x2 x3 x4 x5 x7 s0 z) := by
  unfold fX19_routerSends_L1_96
  exact zw_l (fun v1 => hK52 _ _ _ _ _ _ _ _ _ h)
def mX19_routerSends_L1_164 : Nat := 0x129b3f20000000000000000000000000882088400000000000012000000000000000000000000000000018000000000000000000000000000000000000000000000000000000000000000c0000000000000000000000000000000000000000000000000000000000000000000000000000000000000000000000000000000000000000000000000000000000000000000000000000000000000000000000000000000000000000000000000
theorem wX19_routerSends_L1_164 {M : Nat} {N : Nat} {x0 : Nat} {x2 : Int32} {x6 : Option Nat} {x7 : Int32} {s0 : Nat} {s1 : Int32} {s2 : Int32} {z0 z : St} (hM : mX19_routerSends_L1_164 &&& M = mX19_routerSends_L1_164)  (h : zFr M z0 z) : zPw M z0 (fX19_routerSends_L1_164 N x0 x2 x6 x7 s0 s1 s2 z) := by
  unfold fX19_routerSends_L1_164
  exact zw_lI h (ztb hM rfl) (fun z1 h1 => zw_d (fun a2 => zw_c (wX19_deliver (ztr rfl hM)  h1) (fun _ z4 h2 => zw_s h2)))
def mX19_routerSends_L1_150 : Nat := 0x129b3f20000000000000000000000000882088400000000000012000000000000000000000000000000018000000000000000000000000000000000000000000000000000000000000000c0000000000000000000000000000000000000000000000000000000000000000000000000000000000000000000000000000000000000000000000000000000000000000000000000000000000000000000000000000000000000000000000000
theorem wX19_routerSends_L1_150 {M : Nat} {N : Nat} {x0 : Nat} {x1 : Nat} {x2 : Int32} {x3 : Int32} {x6 : Option Nat} {x7 : Int32} {z0 z : St} (hM : mX19_routerSends_L1_150 &&& M = mX19_routerSends_L1_150)  (h : zFr M z0 z) : zPw M z0 (fX19_routerSends_L1_150 N x0 x1 x2 x3 x6 x7 z) := by
  unfold fX19_routerSends_L1_150
  exact zw_i (wX19_routerSends_L1_164 (ztr rfl hM)  h) (wX19_routerSends_L1_164 (ztr rfl hM)  h)
def mX19_routerSends_L1_52b : Nat := 0x129b3f20000000000000000000000000882088400000000000012000000000000000000000000000000018000000000000000000000000000000000000000000000000000000000000000c0000000000000000000000000000000000000000000000000000000000000000000000000000000000000000000000000000000000000000000000000000000000000000000000000000000000000000000000000000000000000000000000000
theorem wX19_routerSends_L1_52b {M : Nat} {N : Nat} {K52 : Nat → Nat → Int32 → Int32 → Int32 → Int32 → Option Nat → Int32 → St → Option (Int32 × St)} {x0 : Nat} {x1 : Nat} {x2 : Int32} {x3 : Int32} {x4 : Int32} {x5 : Int32} {x6 : Option Nat} {x7 : Int32} {z0 z : St} (hM : mX19_routerSends_L1_52b &&& M = mX19_routerSends_L1_52b)  (hK52 : ∀ a0 a1 a2 a3 a4 a5 a6 a7 a8, zFr M z0 a8 → zPw M z0 (K52 a0 a1 a2 a3 a4 a5 a6 a7 a8)) (h : zFr M z0 z) : zPw M z0 (fX19_routerSends_L1_52b N K52 x0 x1 x2 x3 x4 x5 x6 x7 z) := by
  unfold fX19_routerSends_L1_52b
  exact zw_i (zw_l (fun v2 => zw_k (zw_i (wX19_routerSends_L1_150 (ztr rfl hM)  h) (zw_k (zw_k (zw_l (fun y7 => zw_d (fun a8 => zw_l (fun y9 => zw_d (fun a10 => zw_d (fun a11 => zw_c (wX19_stationOf (ztr rfl hM)  h) (fun r12 z13 h1 => wX19_routerSends_L1_150 (ztr rfl hM)  h1)))))))))))) (zw_k (zw_l (fun y17 => zw_d (fun a18 => zw_l (fun y19 => zw_d (fun a20 => zw_k (zw_i (wX19_routerSends_L1_96 (ztr rfl hM) hK52 h) (zw_k (zw_l (fun y24 => wX19_routerSends_L1_96 (ztr rfl hM) hK52 h))))))))))
def mX19_routerSends_L1_52 : Nat := 0x129b3f20000000000000000000000000882088400000000000012000000000000000000000000000000018000000000000000000000000000000000000000000000000000000000000000c0000000000000000000000000000000000000000000000000000000000000000000000000000000000000000000000000000000000000000000000000000000000000000000000000000000000000000000000000000000000000000000000000
theorem wX19_routerSends_L1_52 {M : Nat} {z0 : St} {N : Nat}(hM : mX19_routerSends_L1_52 &&& M = mX19_routerSends_L1_52)  : ∀ (n : Nat) (y0 : Nat) (y1 : Nat) (y2 : Int32) (y3 : Int32) (y4 : Int32) (y5 : Int32) (y6 : Option Nat) (y7 : Int32) (z : St), zFr M z0 z → zPw M z0 (fX19_routerSends_L1_52 N n y0 y1 y2 y3 y4 y5 y6 y7 z) := by
  intro n
  induction n with
  | zero => intro y0 y1 y2 y3 y4 y5 y6 y7 z h; exact zw_n
  | succ n ih => intro y0 y1 y2 y3 y4 y5 y6 y7 z h; exact wX19_routerSends_L1_52b (ztr rfl hM)  (fun _ _ _ _ _ _ _ _ _ h => ih _ _ _ _ _ _ _ _ _ h) h
def mX19_routerSends_L1 : Nat := 0x129b3f20000000000000000000000000882088400000000000012000000000000000000000000000000018000000000000000000000000000000000000000000000000000000000000000c0000000000000000000000000000000000000000000000000000000000000000000000000000000000000000000000000000000000000000000000000000000000000000000000000000000000000000000000000000000000000000000000000
theorem wX19_routerSends_L1 {M : Nat} {N : Nat} {x0 : Nat} {x1 : Nat} {x2 : Int32} {x3 : Int32} {z0 z : St} (hM : mX19_routerSends_L1 &&& M = mX19_routerSends_L1)  (h : zFr M z0 z) : zPw M z0 (fX19_routerSends_L1 N x0 x1 x2 x3 z) := by
  unfold fX19_routerSends_L1
  exact zw_c (wX19_of (ztr rfl hM)  h) (fun r1 z2 h1 => zw_l (fun v5 => zw_c (wX19_isAddress (ztr rfl hM)  h1) (fun r6 z7 h2 => zw_i (wX19_routerSends_L1_39 (ztr rfl hM)  h2) (zw_k (zw_i (wX19_routerSends_L1_52 (ztr rfl hM)  _ _ _ _ _ _ _ _ _ _ h2) (wX19_routerSends_L1_39 (ztr rfl hM)  h2))))))
def mX19_comeBack_L1_186 : Nat := 0x29b200000000000000000000000000000208840000000000000000000000000000000000000000000000000000000000000000000000000000000000000000000000000000000000000000000000000000000000000000000000000000000000000000000000000000000000000000000000000000000000000000000000000000000000000000000000000000000000000000000000000000000000000000000000000000000000000000
theorem wX19_comeBack_L1_186 {M : Nat} {N : Nat} {x0 : Nat} {x7 : Int32} {z0 z : St} (hM : mX19_comeBack_L1_186 &&& M = mX19_comeBack_L1_186)  (h : zFr M z0 z) : zPw M z0 (fX19_comeBack_L1_186 N x0 x7 z) := by
  unfold fX19_comeBack_L1_186
  exact zw_c (wX19_drop (ztr rfl hM)  h) (fun _ z2 h1 => zw_s h1)
def mX19_comeBack_L1 : Nat := 0x129b3f200000000000000000000000008820884000000000000120000000000000000000000000000000180000000000000000000000803d0000001000000000000000000000000000002d0000000000000000000000000000000000000000000000000000000000000000000000000000000000000000000000000000000000000000000000000000000000000000000000000000000000000000000000000000000000000000000000000
theorem wX19_comeBack_L1 {M : Nat} {N : Nat} {x0 : Nat} {x1 : Nat} {x2 : Int32} {z0 z : St} (hM : mX19_comeBack_L1 &&& M = mX19_comeBack_L1)  (h : zFr M z0 z) : zPw M z0 (fX19_comeBack_L1 N x0 x1 x2 z) := by
  unfold fX19_comeBack_L1
  exact zw_c (wX19_of (ztr rfl hM)  h) (fun r1 z2 h1 => zw_i (zw_s h1) (zw_c (wX19_of (ztr rfl hM)  h1) (fun r6 z7 h2 => zw_i (zw_c (wX19_of (ztr rfl hM)  h2) (fun r11 z12 h3 => zw_c (wX19_of (ztr rfl hM)  h3) (fun r15 z16 h4 => zw_c (wX19_of (ztr rfl hM)  h4) (fun r19 z20 h5 => zw_c (wX19_seg (ztr rfl hM)  h5) (fun r23 z24 h6 => zw_c (wX19_of (ztr rfl hM)  h6) (fun r27 z28 h7 => zw_c (wX19_seg (ztr rfl hM)  h7) (fun r31 z32 h8 => zw_c (wX19_isOwn (ztr rfl hM)  h8) (fun r35 z36 h9 => zw_i (zw_c (wX19_of (ztr rfl hM)  h9) (fun r40 z41 h10 => zw_k (zw_l (fun y45 => zw_d (fun a46 => zw_c (wX18_address (ztr rfl hM)  h10) (fun r47 z48 h11 => zw_c (wX19_make (ztr rfl hM)  h11) (fun r51 z52 h12 => zw_c (wX19_set (ztr rfl hM)  h12) (fun _ z56 h13 => zw_c (wX19_set (ztr rfl hM)  h13) (fun _ z60 h14 => zw_c (wX19_set (ztr rfl hM)  h14) (fun _ z64 h15 => zw_c (wX19_set (ztr rfl hM)  h15) (fun _ z68 h16 => zw_i (zw_c (wX19_hostSends_L1 (ztr rfl hM)  h16) (fun _ z73 h17 => wX19_comeBack_L1_186 (ztr rfl hM)  h17)) (zw_c (wX19_routerSends_L1 (ztr rfl hM)  h16) (fun _ z77 h18 => wX19_comeBack_L1_186 (ztr rfl hM)  h18))))))))))))) (zw_lI h9 (ztb hM rfl) (fun z80 h19 => zw_c (wX19_act (ztr rfl hM)  h19) (fun _ z82 h20 => zw_s h20))))))))))) (zw_s h2))))
def mX19_hostSends_L2_82b : Nat := 0x129b3f200000000000000000000000008820884000000000000120000000000000000000000000000000180000000000000000000000803d0000001000000000000000000000000000002d0000000000000000000000000000000000000000000000000000000000000000000000000000000000000000000000000000000000000000000000000000000000000000000000000000000000000000000000000000000000000000000000000
theorem wX19_hostSends_L2_82b {M : Nat} {N : Nat} {K82 : Nat → Nat → Int32 → Nat → Int32 → St → Option (Int32 × St)} {x0 : Nat} {x1 : Nat} {x2 : Int32} {x3 : Nat} {x5 : Int32} {z0 z : St} (hM : mX19_hostSends_L2_82b &&& M = mX19_hostSends_L2_82b)  (hK82 : ∀ a0 a1 a2 a3 a4 a5, zFr M z0 a5 → zPw M z0 (K82 a0 a1 a2 a3 a4 a5)) (h : zFr M z0 z) : zPw M z0 (fX19_hostSends_L2_82b N K82 x0 x1 x2 x3 x5 z) := by
  unfold fX19_hostSends_L2_82b
  exact zw_l (fun y1 => zw_d (fun a2 => zw_i (zw_c (wX19_comeBack_L1 (ztr rfl hM)  h) (fun _ z5 h1 => zw_s h1)) (zw_l (fun y8 => zw_d (fun a9 => zw_k (zw_l (fun y11 => zw_d (fun a12 => zw_l (fun y13 => zw_d (fun a14 => zw_i (zw_l (fun v16 => hK82 _ _ _ _ _ _ h)) (zw_c (wX19_deliver (ztr rfl hM)  h) (fun _ z18 h2 => zw_s h2))))))))))))
def mX19_hostSends_L2_82 : Nat := 0x129b3f200000000000000000000000008820884000000000000120000000000000000000000000000000180000000000000000000000803d0000001000000000000000000000000000002d0000000000000000000000000000000000000000000000000000000000000000000000000000000000000000000000000000000000000000000000000000000000000000000000000000000000000000000000000000000000000000000000000
theorem wX19_hostSends_L2_82 {M : Nat} {z0 : St} {N : Nat}(hM : mX19_hostSends_L2_82 &&& M = mX19_hostSends_L2_82)  : ∀ (n : Nat) (y0 : Nat) (y1 : Nat) (y2 : Int32) (y3 : Nat) (y4 : Int32) (z : St), zFr M z0 z → zPw M z0 (fX19_hostSends_L2_82 N n y0 y1 y2 y3 y4 z) := by
  intro n
  induction n with
  | zero => intro y0 y1 y2 y3 y4 z h; exact zw_n
  | succ n ih => intro y0 y1 y2 y3 y4 z h; exact wX19_hostSends_L2_82b (ztr rfl hM)  (fun _ _ _ _ _ _ h => ih _ _ _ _ _ _ h) h
def mX19_hostSends_L2 : Nat := 0x129b3f200000000000000000000000008820884000000000000120000000000000000000000000000000180000000000000000000000803d0000001000000000000000000000000000002d0000000000000000000000000000000000000000000000000000000000000000000000000000000000000000000000000000000000000000000000000000000000000000000000000000000000000000000000000000000000000000000000000
theorem wX19_hostSends_L2 {M : Nat} {N : Nat} {x0 : Nat} {x1 : Nat} {x2 : Int32} {z0 z : St} (hM : mX19_hostSends_L2 &&& M = mX19_hostSends_L2)  (h : zFr M z0 z) : zPw M z0 (fX19_hostSends_L2 N x0 x1 x2 z) := by
  unfold fX19_hostSends_L2
  exact zw_i (zw_k (zw_l (fun y3 => zw_c (wX19_set (ztr rfl hM)  h) (fun _ z5 h1 => zw_c (wX19_of (ztr rfl hM)  h1) (fun r8 z9 h2 => zw_d (fun a12 => zw_l (fun y13 => zw_d (fun a14 => zw_c (wX19_isOf (ztr rfl hM)  h2) (fun r15 z16 h3 => zw_i (wX19_hostSends_L2_82 (ztr rfl hM)  _ _ _ _ _ _ _ h3) (zw_c (wX19_isAddress (ztr rfl hM)  h3) (fun r20 z21 h4 => zw_i (zw_c (wX19_comeBack_L1 (ztr rfl hM)  h4) (fun _ z26 h5 => zw_s h5)) (zw_c (wX19_deliver (ztr rfl hM)  h4) (fun _ z30 h6 => zw_s h6))))))))))))) (zw_s h)
def mX19_routerSends_L2_39 : Nat := 0x129b3f200000000000000000000000008820884000000000000120000000000000000000000000000000180000000000000000000000803d0000001000000000000000000000000000002d0000000000000000000000000000000000000000000000000000000000000000000000000000000000000000000000000000000000000000000000000000000000000000000000000000000000000000000000000000000000000000000000000
theorem wX19_routerSends_L2_39 {M : Nat} {N : Nat} {x0 : Nat} {x1 : Nat} {x2 : Int32} {z0 z : St} (hM : mX19_routerSends_L2_39 &&& M = mX19_routerSends_L2_39)  (h : zFr M z0 z) : zPw M z0 (fX19_routerSends_L2_39 N x0 x1 x2 z) := by
  unfold fX19_routerSends_L2_39
  exact zw_c (wX19_comeBack_L1 (ztr rfl hM)  h) (fun _ z2 h1 => zw_s h1)
def mX19_routerSends_L2_96 : Nat := 0x0
theorem wX19_routerSends_L2_96 {M : Nat} {N : Nat} {K52 : Nat → Nat → Int32 → Int32 → Int32 → Int32 → Option Nat → Int32 → St → Option (Int32 × St)} {x0 : Nat} {x1 : Nat} {x2 : Int32} {x3 : Int32} {x4 : Int32} {x5 : Int32} {x7 : Int32} {s0 : Option Nat} {z0 z : St} (hM : mX19_routerSends_L2_96 &&& M = mX19_routerSends_L2_96)  (hK52 : ∀ a0 a1 a2 a3 a4 a5 a6 a7 a8, zFr M z0 a8 → zPw M z0 (K52 a0 a1 a2 a3 a4 a5 a6 a7 a8)) (h : zFr M z0 z) : zPw M z0 (fX19_routerSends_L2_96 N K52 x0 x1 x2 x3 x4 x5 x7 s0 z) := by
  unfold fX19_routerSends_L2_96
  exact zw_l (fun v1 => hK52 _ _ _ _ _ _ _ _ _ h)
def mX19_routerSends_L2_164 : Nat := 0x129b3f20000000000000000000000000882088400000000000012000000000000000000000000000000018000000000000000000000000000000000000000000000000000000000000000c0000000000000000000000000000000000000000000000000000000000000000000000000000000000000000000000000000000000000000000000000000000000000000000000000000000000000000000000000000000000000000000000000
theorem wX19_routerSends_L2_164 {M : Nat} {N : Nat} {x0 : Nat} {x2 : Int32} {x6 : Option Nat} {x7 : Int32} {s0 : Nat} {s1 : Int32} {s2 : Int32} {z0 z : St} (hM : mX19_routerSends_L2_164 &&& M = mX19_routerSends_L2_164)  (h : zFr M z0 z) : zPw M z0 (fX19_routerSends_L2_164 N x0 x2 x6 x7 s0 s1 s2 z) := by
  unfold fX19_routerSends_L2_164
  exact zw_lI h (ztb hM rfl) (fun z1 h1 => zw_d (fun a2 => zw_c (wX19_deliver (ztr rfl hM)  h1) (fun _ z4 h2 => zw_s h2)))
def mX19_routerSends_L2_150 : Nat := 0x129b3f20000000000000000000000000882088400000000000012000000000000000000000000000000018000000000000000000000000000000000000000000000000000000000000000c0000000000000000000000000000000000000000000000000000000000000000000000000000000000000000000000000000000000000000000000000000000000000000000000000000000000000000000000000000000000000000000000000
theorem wX19_routerSends_L2_150 {M : Nat} {N : Nat} {x0 : Nat} {x1 : Nat} {x2 : Int32} {x3 : Int32} {x6 : Option Nat} {x7 : Int32} {z0 z : St} (hM : mX19_routerSends_L2_150 &&& M = mX19_routerSends_L2_150)  (h : zFr M z0 z) : zPw M z0 (fX19_routerSends_L2_150 N x0 x1 x2 x3 x6 x7 z) := by
  unfold fX19_routerSends_L2_150
  exact zw_i (wX19_routerSends_L2_164 (ztr rfl hM)  h) (wX19_routerSends_L2_164 (ztr rfl hM)  h)
def mX19_routerSends_L2_52b : Nat := 0x129b3f20000000000000000000000000882088400000000000012000000000000000000000000000000018000000000000000000000000000000000000000000000000000000000000000c0000000000000000000000000000000000000000000000000000000000000000000000000000000000000000000000000000000000000000000000000000000000000000000000000000000000000000000000000000000000000000000000000
theorem wX19_routerSends_L2_52b {M : Nat} {N : Nat} {K52 : Nat → Nat → Int32 → Int32 → Int32 → Int32 → Option Nat → Int32 → St → Option (Int32 × St)} {x0 : Nat} {x1 : Nat} {x2 : Int32} {x3 : Int32} {x4 : Int32} {x5 : Int32} {x6 : Option Nat} {x7 : Int32} {z0 z : St} (hM : mX19_routerSends_L2_52b &&& M = mX19_routerSends_L2_52b)  (hK52 : ∀ a0 a1 a2 a3 a4 a5 a6 a7 a8, zFr M z0 a8 → zPw M z0 (K52 a0 a1 a2 a3 a4 a5 a6 a7 a8)) (h : zFr M z0 z) : zPw M z0 (fX19_routerSends_L2_52b N K52 x0 x1 x2 x3 x4 x5 x6 x7 z) := by
  unfold fX19_routerSends_L2_52b
  exact zw_i (zw_l (fun v2 => zw_k (zw_i (wX19_routerSends_L2_150 (ztr rfl hM)  h) (zw_k (zw_k (zw_l (fun y7 => zw_d (fun a8 => zw_l (fun y9 => zw_d (fun a10 => zw_d (fun a11 => zw_c (wX19_stationOf (ztr rfl hM)  h) (fun r12 z13 h1 => wX19_routerSends_L2_150 (ztr rfl hM)  h1)))))))))))) (zw_k (zw_l (fun y17 => zw_d (fun a18 => zw_l (fun y19 => zw_d (fun a20 => zw_k (zw_i (wX19_routerSends_L2_96 (ztr rfl hM) hK52 h) (zw_k (zw_l (fun y24 => wX19_routerSends_L2_96 (ztr rfl hM) hK52 h))))))))))
def mX19_routerSends_L2_52 : Nat := 0x129b3f20000000000000000000000000882088400000000000012000000000000000000000000000000018000000000000000000000000000000000000000000000000000000000000000c0000000000000000000000000000000000000000000000000000000000000000000000000000000000000000000000000000000000000000000000000000000000000000000000000000000000000000000000000000000000000000000000000
theorem wX19_routerSends_L2_52 {M : Nat} {z0 : St} {N : Nat}(hM : mX19_routerSends_L2_52 &&& M = mX19_routerSends_L2_52)  : ∀ (n : Nat) (y0 : Nat) (y1 : Nat) (y2 : Int32) (y3 : Int32) (y4 : Int32) (y5 : Int32) (y6 : Option Nat) (y7 : Int32) (z : St), zFr M z0 z → zPw M z0 (fX19_routerSends_L2_52 N n y0 y1 y2 y3 y4 y5 y6 y7 z) := by
  intro n
  induction n with
  | zero => intro y0 y1 y2 y3 y4 y5 y6 y7 z h; exact zw_n
  | succ n ih => intro y0 y1 y2 y3 y4 y5 y6 y7 z h; exact wX19_routerSends_L2_52b (ztr rfl hM)  (fun _ _ _ _ _ _ _ _ _ h => ih _ _ _ _ _ _ _ _ _ h) h
def mX19_routerSends_L2 : Nat := 0x129b3f200000000000000000000000008820884000000000000120000000000000000000000000000000180000000000000000000000803d0000001000000000000000000000000000002d0000000000000000000000000000000000000000000000000000000000000000000000000000000000000000000000000000000000000000000000000000000000000000000000000000000000000000000000000000000000000000000000000
theorem wX19_routerSends_L2 {M : Nat} {N : Nat} {x0 : Nat} {x1 : Nat} {x2 : Int32} {x3 : Int32} {z0 z : St} (hM : mX19_routerSends_L2 &&& M = mX19_routerSends_L2)  (h : zFr M z0 z) : zPw M z0 (fX19_routerSends_L2 N x0 x1 x2 x3 z) := by
  unfold fX19_routerSends_L2
  exact zw_c (wX19_of (ztr rfl hM)  h) (fun r1 z2 h1 => zw_l (fun v5 => zw_c (wX19_isAddress (ztr rfl hM)  h1) (fun r6 z7 h2 => zw_i (wX19_routerSends_L2_39 (ztr rfl hM)  h2) (zw_k (zw_i (wX19_routerSends_L2_52 (ztr rfl hM)  _ _ _ _ _ _ _ _ _ _ h2) (wX19_routerSends_L2_39 (ztr rfl hM)  h2))))))
def mX19_comeBack_L2_186 : Nat := 0x29b200000000000000000000000000000208840000000000000000000000000000000000000000000000000000000000000000000000000000000000000000000000000000000000000000000000000000000000000000000000000000000000000000000000000000000000000000000000000000000000000000000000000000000000000000000000000000000000000000000000000000000000000000000000000000000000000000
theorem wX19_comeBack_L2_186 {M : Nat} {N : Nat} {x0 : Nat} {x7 : Int32} {z0 z : St} (hM : mX19_comeBack_L2_186 &&& M = mX19_comeBack_L2_186)  (h : zFr M z0 z) : zPw M z0 (fX19_comeBack_L2_186 N x0 x7 z) := by
  unfold fX19_comeBack_L2_186
  exact zw_c (wX19_drop (ztr rfl hM)  h) (fun _ z2 h1 => zw_s h1)
def mX19_comeBack_L2 : Nat := 0x129b3f200000000000000000000000008820884000000000000120000000000000000000000000000000180000000000000000000000803d0000001000000000000000000000000000002d0000000000000000000000000000000000000000000000000000000000000000000000000000000000000000000000000000000000000000000000000000000000000000000000000000000000000000000000000000000000000000000000000
theorem wX19_comeBack_L2 {M : Nat} {N : Nat} {x0 : Nat} {x1 : Nat} {x2 : Int32} {z0 z : St} (hM : mX19_comeBack_L2 &&& M = mX19_comeBack_L2)  (h : zFr M z0 z) : zPw M z0 (fX19_comeBack_L2 N x0 x1 x2 z) := by
  unfold fX19_comeBack_L2
  exact zw_c (wX19_of (ztr rfl hM)  h) (fun r1 z2 h1 => zw_i (zw_s h1) (zw_c (wX19_of (ztr rfl hM)  h1) (fun r6 z7 h2 => zw_i (zw_c (wX19_of (ztr rfl hM)  h2) (fun r11 z12 h3 => zw_c (wX19_of (ztr rfl hM)  h3) (fun r15 z16 h4 => zw_c (wX19_of (ztr rfl hM)  h4) (fun r19 z20 h5 => zw_c (wX19_seg (ztr rfl hM)  h5) (fun r23 z24 h6 => zw_c (wX19_of (ztr rfl hM)  h6) (fun r27 z28 h7 => zw_c (wX19_seg (ztr rfl hM)  h7) (fun r31 z32 h8 => zw_c (wX19_isOwn (ztr rfl hM)  h8) (fun r35 z36 h9 => zw_i (zw_c (wX19_of (ztr rfl hM)  h9) (fun r40 z41 h10 => zw_k (zw_l (fun y45 => zw_d (fun a46 => zw_c (wX18_address (ztr rfl hM)  h10) (fun r47 z48 h11 => zw_c (wX19_make (ztr rfl hM)  h11) (fun r51 z52 h12 => zw_c (wX19_set (ztr rfl hM)  h12) (fun _ z56 h13 => zw_c (wX19_set (ztr rfl hM)  h13) (fun _ z60 h14 => zw_c (wX19_set (ztr rfl hM)  h14) (fun _ z64 h15 => zw_c (wX19_set (ztr rfl hM)  h15) (fun _ z68 h16 => zw_i (zw_c (wX19_hostSends_L2 (ztr rfl hM)  h16) (fun _ z73 h17 => wX19_comeBack_L2_186 (ztr rfl hM)  h17)) (zw_c (wX19_routerSends_L2 (ztr rfl hM)  h16) (fun _ z77 h18 => wX19_comeBack_L2_186 (ztr rfl hM)  h18))))))))))))) (zw_lI h9 (ztb hM rfl) (fun z80 h19 => zw_c (wX19_act (ztr rfl hM)  h19) (fun _ z82 h20 => zw_s h20))))))))))) (zw_s h2))))
def mX19_hostSends_82b : Nat := 0x129b3f200000000000000000000000008820884000000000000120000000000000000000000000000000180000000000000000000000803d0000001000000000000000000000000000002d0000000000000000000000000000000000000000000000000000000000000000000000000000000000000000000000000000000000000000000000000000000000000000000000000000000000000000000000000000000000000000000000000
theorem wX19_hostSends_82b {M : Nat} {N : Nat} {K82 : Nat → Nat → Int32 → Nat → Int32 → St → Option (Int32 × St)} {x0 : Nat} {x1 : Nat} {x2 : Int32} {x3 : Nat} {x5 : Int32} {z0 z : St} (hM : mX19_hostSends_82b &&& M = mX19_hostSends_82b)  (hK82 : ∀ a0 a1 a2 a3 a4 a5, zFr M z0 a5 → zPw M z0 (K82 a0 a1 a2 a3 a4 a5)) (h : zFr M z0 z) : zPw M z0 (fX19_hostSends_82b N K82 x0 x1 x2 x3 x5 z) := by
  unfold fX19_hostSends_82b
  exact zw_l (fun y1 => zw_d (fun a2 => zw_i (zw_c (wX19_comeBack_L2 (ztr rfl hM)  h) (fun _ z5 h1 => zw_s h1)) (zw_l (fun y8 => zw_d (fun a9 => zw_k (zw_l (fun y11 => zw_d (fun a12 => zw_l (fun y13 => zw_d (fun a14 => zw_i (zw_l (fun v16 => hK82 _ _ _ _ _ _ h)) (zw_c (wX19_deliver (ztr rfl hM)  h) (fun _ z18 h2 => zw_s h2))))))))))))
def mX19_hostSends_82 : Nat := 0x129b3f200000000000000000000000008820884000000000000120000000000000000000000000000000180000000000000000000000803d0000001000000000000000000000000000002d0000000000000000000000000000000000000000000000000000000000000000000000000000000000000000000000000000000000000000000000000000000000000000000000000000000000000000000000000000000000000000000000000
theorem wX19_hostSends_82 {M : Nat} {z0 : St} {N : Nat}(hM : mX19_hostSends_82 &&& M = mX19_hostSends_82)  : ∀ (n : Nat) (y0 : Nat) (y1 : Nat) (y2 : Int32) (y3 : Nat) (y4 : Int32) (z : St), zFr M z0 z → zPw M z0 (fX19_hostSends_82 N n y0 y1 y2 y3 y4 z) := by
  intro n
  induction n with
  | zero => intro y0 y1 y2 y3 y4 z h; exact zw_n
  | succ n ih => intro y0 y1 y2 y3 y4 z h; exact wX19_hostSends_82b (ztr rfl hM)  (fun _ _ _ _ _ _ h => ih _ _ _ _ _ _ h) h
def mX19_hostSends : Nat := 0x129b3f200000000000000000000000008820884000000000000120000000000000000000000000000000180000000000000000000000803d0000001000000000000000000000000000002d0000000000000000000000000000000000000000000000000000000000000000000000000000000000000000000000000000000000000000000000000000000000000000000000000000000000000000000000000000000000000000000000000
theorem wX19_hostSends {M : Nat} {N : Nat} {x0 : Nat} {x1 : Nat} {x2 : Int32} {z0 z : St} (hM : mX19_hostSends &&& M = mX19_hostSends)  (h : zFr M z0 z) : zPw M z0 (fX19_hostSends N x0 x1 x2 z) := by
  unfold fX19_hostSends
  exact zw_i (zw_k (zw_l (fun y3 => zw_c (wX19_set (ztr rfl hM)  h) (fun _ z5 h1 => zw_c (wX19_of (ztr rfl hM)  h1) (fun r8 z9 h2 => zw_d (fun a12 => zw_l (fun y13 => zw_d (fun a14 => zw_c (wX19_isOf (ztr rfl hM)  h2) (fun r15 z16 h3 => zw_i (wX19_hostSends_82 (ztr rfl hM)  _ _ _ _ _ _ _ h3) (zw_c (wX19_isAddress (ztr rfl hM)  h3) (fun r20 z21 h4 => zw_i (zw_c (wX19_comeBack_L2 (ztr rfl hM)  h4) (fun _ z26 h5 => zw_s h5)) (zw_c (wX19_deliver (ztr rfl hM)  h4) (fun _ z30 h6 => zw_s h6))))))))))))) (zw_s h)
def mX19_routerSends_39 : Nat := 0x129b3f200000000000000000000000008820884000000000000120000000000000000000000000000000180000000000000000000000803d0000001000000000000000000000000000002d0000000000000000000000000000000000000000000000000000000000000000000000000000000000000000000000000000000000000000000000000000000000000000000000000000000000000000000000000000000000000000000000000
theorem wX19_routerSends_39 {M : Nat} {N : Nat} {x0 : Nat} {x1 : Nat} {x2 : Int32} {z0 z : St} (hM : mX19_routerSends_39 &&& M = mX19_routerSends_39)  (h : zFr M z0 z) : zPw M z0 (fX19_routerSends_39 N x0 x1 x2 z) := by
  unfold fX19_routerSends_39
  exact zw_c (wX19_comeBack_L2 (ztr rfl hM)  h) (fun _ z2 h1 => zw_s h1)
def mX19_routerSends_96 : Nat := 0x0
theorem wX19_routerSends_96 {M : Nat} {N : Nat} {K52 : Nat → Nat → Int32 → Int32 → Int32 → Int32 → Option Nat → Int32 → St → Option (Int32 × St)} {x0 : Nat} {x1 : Nat} {x2 : Int32} {x3 : Int32} {x4 : Int32} {x5 : Int32} {x7 : Int32} {s0 : Option Nat} {z0 z : St} (hM : mX19_routerSends_96 &&& M = mX19_routerSends_96)  (hK52 : ∀ a0 a1 a2 a3 a4 a5 a6 a7 a8, zFr M z0 a8 → zPw M z0 (K52 a0 a1 a2 a3 a4 a5 a6 a7 a8)) (h : zFr M z0 z) : zPw M z0 (fX19_routerSends_96 N K52 x0 x1 x2 x3 x4 x5 x7 s0 z) := by
  unfold fX19_routerSends_96
  exact zw_l (fun v1 => hK52 _ _ _ _ _ _ _ _ _ h)
def mX19_routerSends_164 : Nat := 0x129b3f20000000000000000000000000882088400000000000012000000000000000000000000000000018000000000000000000000000000000000000000000000000000000000000000c0000000000000000000000000000000000000000000000000000000000000000000000000000000000000000000000000000000000000000000000000000000000000000000000000000000000000000000000000000000000000000000000000
theorem wX19_routerSends_164 {M : Nat} {N : Nat} {x0 : Nat} {x2 : Int32} {x6 : Option Nat} {x7 : Int32} {s0 : Nat} {s1 : Int32} {s2 : Int32} {z0 z : St} (hM : mX19_routerSends_164 &&& M = mX19_routerSends_164)  (h : zFr M z0 z) : zPw M z0 (fX19_routerSends_164 N x0 x2 x6 x7 s0 s1 s2 z) := by
  unfold fX19_routerSends_164
  exact zw_lI h (ztb hM rfl) (fun z1 h1 => zw_d (fun a2 => zw_c (wX19_deliver (ztr rfl hM)  h1) (fun _ z4 h2 => zw_s h2)))
def mX19_routerSends_150 : Nat := 0x129b3f20000000000000000000000000882088400000000000012000000000000000000000000000000018000000000000000000000000000000000000000000000000000000000000000c0000000000000000000000000000000000000000000000000000000000000000000000000000000000000000000000000000000000000000000000000000000000000000000000000000000000000000000000000000000000000000000000000
theorem wX19_routerSends_150 {M : Nat} {N : Nat} {x0 : Nat} {x1 : Nat} {x2 : Int32} {x3 : Int32} {x6 : Option Nat} {x7 : Int32} {z0 z : St} (hM : mX19_routerSends_150 &&& M = mX19_routerSends_150)  (h : zFr M z0 z) : zPw M z0 (fX19_routerSends_150 N x0 x1 x2 x3 x6 x7 z) := by
  unfold fX19_routerSends_150
  exact zw_i (wX19_routerSends_164 (ztr rfl hM)  h) (wX19_routerSends_164 (ztr rfl hM)  h)
def mX19_routerSends_52b : Nat := 0x129b3f20000000000000000000000000882088400000000000012000000000000000000000000000000018000000000000000000000000000000000000000000000000000000000000000c0000000000000000000000000000000000000000000000000000000000000000000000000000000000000000000000000000000000000000000000000000000000000000000000000000000000000000000000000000000000000000000000000
theorem wX19_routerSends_52b {M : Nat} {N : Nat} {K52 : Nat → Nat → Int32 → Int32 → Int32 → Int32 → Option Nat → Int32 → St → Option (Int32 × St)} {x0 : Nat} {x1 : Nat} {x2 : Int32} {x3 : Int32} {x4 : Int32} {x5 : Int32} {x6 : Option Nat} {x7 : Int32} {z0 z : St} (hM : mX19_routerSends_52b &&& M = mX19_routerSends_52b)  (hK52 : ∀ a0 a1 a2 a3 a4 a5 a6 a7 a8, zFr M z0 a8 → zPw M z0 (K52 a0 a1 a2 a3 a4 a5 a6 a7 a8)) (h : zFr M z0 z) : zPw M z0 (fX19_routerSends_52b N K52 x0 x1 x2 x3 x4 x5 x6 x7 z) := by
  unfold fX19_routerSends_52b
  exact zw_i (zw_l (fun v2 => zw_k (zw_i (wX19_routerSends_150 (ztr rfl hM)  h) (zw_k (zw_k (zw_l (fun y7 => zw_d (fun a8 => zw_l (fun y9 => zw_d (fun a10 => zw_d (fun a11 => zw_c (wX19_stationOf (ztr rfl hM)  h) (fun r12 z13 h1 => wX19_routerSends_150 (ztr rfl hM)  h1)))))))))))) (zw_k (zw_l (fun y17 => zw_d (fun a18 => zw_l (fun y19 => zw_d (fun a20 => zw_k (zw_i (wX19_routerSends_96 (ztr rfl hM) hK52 h) (zw_k (zw_l (fun y24 => wX19_routerSends_96 (ztr rfl hM) hK52 h))))))))))
def mX19_routerSends_52 : Nat := 0x129b3f20000000000000000000000000882088400000000000012000000000000000000000000000000018000000000000000000000000000000000000000000000000000000000000000c0000000000000000000000000000000000000000000000000000000000000000000000000000000000000000000000000000000000000000000000000000000000000000000000000000000000000000000000000000000000000000000000000
theorem wX19_routerSends_52 {M : Nat} {z0 : St} {N : Nat}(hM : mX19_routerSends_52 &&& M = mX19_routerSends_52)  : ∀ (n : Nat) (y0 : Nat) (y1 : Nat) (y2 : Int32) (y3 : Int32) (y4 : Int32) (y5 : Int32) (y6 : Option Nat) (y7 : Int32) (z : St), zFr M z0 z → zPw M z0 (fX19_routerSends_52 N n y0 y1 y2 y3 y4 y5 y6 y7 z) := by
  intro n
  induction n with
  | zero => intro y0 y1 y2 y3 y4 y5 y6 y7 z h; exact zw_n
  | succ n ih => intro y0 y1 y2 y3 y4 y5 y6 y7 z h; exact wX19_routerSends_52b (ztr rfl hM)  (fun _ _ _ _ _ _ _ _ _ h => ih _ _ _ _ _ _ _ _ _ h) h
def mX19_routerSends : Nat := 0x129b3f200000000000000000000000008820884000000000000120000000000000000000000000000000180000000000000000000000803d0000001000000000000000000000000000002d0000000000000000000000000000000000000000000000000000000000000000000000000000000000000000000000000000000000000000000000000000000000000000000000000000000000000000000000000000000000000000000000000
theorem wX19_routerSends {M : Nat} {N : Nat} {x0 : Nat} {x1 : Nat} {x2 : Int32} {x3 : Int32} {z0 z : St} (hM : mX19_routerSends &&& M = mX19_routerSends)  (h : zFr M z0 z) : zPw M z0 (fX19_routerSends N x0 x1 x2 x3 z) := by
  unfold fX19_routerSends
  exact zw_c (wX19_of (ztr rfl hM)  h) (fun r1 z2 h1 => zw_l (fun v5 => zw_c (wX19_isAddress (ztr rfl hM)  h1) (fun r6 z7 h2 => zw_i (wX19_routerSends_39 (ztr rfl hM)  h2) (zw_k (zw_i (wX19_routerSends_52 (ztr rfl hM)  _ _ _ _ _ _ _ _ _ _ h2) (wX19_routerSends_39 (ztr rfl hM)  h2))))))
def mX19_comeBack_186 : Nat := 0x29b200000000000000000000000000000208840000000000000000000000000000000000000000000000000000000000000000000000000000000000000000000000000000000000000000000000000000000000000000000000000000000000000000000000000000000000000000000000000000000000000000000000000000000000000000000000000000000000000000000000000000000000000000000000000000000000000000
theorem wX19_comeBack_186 {M : Nat} {N : Nat} {x0 : Nat} {x7 : Int32} {z0 z : St} (hM : mX19_comeBack_186 &&& M = mX19_comeBack_186)  (h : zFr M z0 z) : zPw M z0 (fX19_comeBack_186 N x0 x7 z) := by
  unfold fX19_comeBack_186
  exact zw_c (wX19_drop (ztr rfl hM)  h) (fun _ z2 h1 => zw_s h1)
def mX19_comeBack : Nat := 0x129b3f200000000000000000000000008820884000000000000120000000000000000000000000000000180000000000000000000000803d0000001000000000000000000000000000002d0000000000000000000000000000000000000000000000000000000000000000000000000000000000000000000000000000000000000000000000000000000000000000000000000000000000000000000000000000000000000000000000000
theorem wX19_comeBack {M : Nat} {N : Nat} {x0 : Nat} {x1 : Nat} {x2 : Int32} {z0 z : St} (hM : mX19_comeBack &&& M = mX19_comeBack)  (h : zFr M z0 z) : zPw M z0 (fX19_comeBack N x0 x1 x2 z) := by
  unfold fX19_comeBack
  exact zw_c (wX19_of (ztr rfl hM)  h) (fun r1 z2 h1 => zw_i (zw_s h1) (zw_c (wX19_of (ztr rfl hM)  h1) (fun r6 z7 h2 => zw_i (zw_c (wX19_of (ztr rfl hM)  h2) (fun r11 z12 h3 => zw_c (wX19_of (ztr rfl hM)  h3) (fun r15 z16 h4 => zw_c (wX19_of (ztr rfl hM)  h4) (fun r19 z20 h5 => zw_c (wX19_seg (ztr rfl hM)  h5) (fun r23 z24 h6 => zw_c (wX19_of (ztr rfl hM)  h6) (fun r27 z28 h7 => zw_c (wX19_seg (ztr rfl hM)  h7) (fun r31 z32 h8 => zw_c (wX19_isOwn (ztr rfl hM)  h8) (fun r35 z36 h9 => zw_i (zw_c (wX19_of (ztr rfl hM)  h9) (fun r40 z41 h10 => zw_k (zw_l (fun y45 => zw_d (fun a46 => zw_c (wX18_address (ztr rfl hM)  h10) (fun r47 z48 h11 => zw_c (wX19_make (ztr rfl hM)  h11) (fun r51 z52 h12 => zw_c (wX19_set (ztr rfl hM)  h12) (fun _ z56 h13 => zw_c (wX19_set (ztr rfl hM)  h13) (fun _ z60 h14 => zw_c (wX19_set (ztr rfl hM)  h14) (fun _ z64 h15 => zw_c (wX19_set (ztr rfl hM)  h15) (fun _ z68 h16 => zw_i (zw_c (wX19_hostSends (ztr rfl hM)  h16) (fun _ z73 h17 => wX19_comeBack_186 (ztr rfl hM)  h17)) (zw_c (wX19_routerSends (ztr rfl hM)  h16) (fun _ z77 h18 => wX19_comeBack_186 (ztr rfl hM)  h18))))))))))))) (zw_lI h9 (ztb hM rfl) (fun z80 h19 => zw_c (wX19_act (ztr rfl hM)  h19) (fun _ z82 h20 => zw_s h20))))))))))) (zw_s h2))))
def mX19_askings_150 : Nat := 0x0
theorem wX19_askings_150 {M : Nat} {N : Nat} {K2 : Nat → Nat → Int32 → St → Option (Int32 × St)} {x0 : Nat} {x1 : Nat} {x2 : Int32} {z0 z : St} (hM : mX19_askings_150 &&& M = mX19_askings_150)  (hK2 : ∀ a0 a1 a2 a3, zFr M z0 a3 → zPw M z0 (K2 a0 a1 a2 a3)) (h : zFr M z0 z) : zPw M z0 (fX19_askings_150 N K2 x0 x1 x2 z) := by
  unfold fX19_askings_150
  exact hK2 _ _ _ _ h
def mX19_askings_86b : Nat := 0x129b3f200000000000000000000000008820884000000000000120000000000000000000000000000000180000000000000000000000803d0000001000000000000000000000000000002d0000000000000000000000000000000000000000000000000000000000000000000000000000000000000000000000000000000000000000000000000000000000000000000000000000000000000000000000000000000000000000000000000
theorem wX19_askings_86b {M : Nat} {N : Nat} {K2 : Nat → Nat → Int32 → St → Option (Int32 × St)} {K86 : Nat → Nat → Int32 → Int32 → Int32 → St → Option (Int32 × St)} {x0 : Nat} {x1 : Nat} {x2 : Int32} {x5 : Int32} {x7 : Int32} {z0 z : St} (hM : mX19_askings_86b &&& M = mX19_askings_86b)  (hK2 : ∀ a0 a1 a2 a3, zFr M z0 a3 → zPw M z0 (K2 a0 a1 a2 a3)) (hK86 : ∀ a0 a1 a2 a3 a4 a5, zFr M z0 a5 → zPw M z0 (K86 a0 a1 a2 a3 a4 a5)) (h : zFr M z0 z) : zPw M z0 (fX19_askings_86b N K2 K86 x0 x1 x2 x5 x7 z) := by
  unfold fX19_askings_86b
  exact zw_i (wX19_askings_150 (ztr rfl hM) hK2 h) (zw_k (zw_l (fun v3 => zw_l (fun y4 => zw_d (fun a5 => zw_c (wX19_comeBack (ztr rfl hM)  h) (fun _ z7 h1 => zw_c (wX19_drop (ztr rfl hM)  h1) (fun _ z11 h2 => zw_l (fun v14 => hK86 _ _ _ _ _ _ h2))))))))
def mX19_askings_86 : Nat := 0x129b3f200000000000000000000000008820884000000000000120000000000000000000000000000000180000000000000000000000803d0000001000000000000000000000000000002d0000000000000000000000000000000000000000000000000000000000000000000000000000000000000000000000000000000000000000000000000000000000000000000000000000000000000000000000000000000000000000000000000
theorem wX19_askings_86 {M : Nat} {z0 : St} {N : Nat} {K2 : Nat → Nat → Int32 → St → Option (Int32 × St)}(hM : mX19_askings_86 &&& M = mX19_askings_86)  (hK2 : ∀ a0 a1 a2 a3, zFr M z0 a3 → zPw M z0 (K2 a0 a1 a2 a3)) : ∀ (n : Nat) (y0 : Nat) (y1 : Nat) (y2 : Int32) (y3 : Int32) (y4 : Int32) (z : St), zFr M z0 z → zPw M z0 (fX19_askings_86 N K2 n y0 y1 y2 y3 y4 z) := by
  intro n
  induction n with
  | zero => intro y0 y1 y2 y3 y4 z h; exact zw_n
  | succ n ih => intro y0 y1 y2 y3 y4 z h; exact wX19_askings_86b (ztr rfl hM) hK2 (fun _ _ _ _ _ _ h => ih _ _ _ _ _ _ h) h
def mX19_askings_54b : Nat := 0x329b3f200000000000000000000000008820884000000000000120000000000000000000000000000000180000000000000000000000803d0000001000000000000000000000000000002d0000000000000000000000000000000000000000000000000000000000000000000000000000000000000000000000000000000000000000000000000000000000000000000000000000000000000000000000000000000000000000000000000
theorem wX19_askings_54b {M : Nat} {N : Nat} {K2 : Nat → Nat → Int32 → St → Option (Int32 × St)} {K54 : Nat → Nat → Int32 → Int32 → Int32 → Int32 → St → Option (Int32 × St)} {x0 : Nat} {x1 : Nat} {x2 : Int32} {x3 : Int32} {x5 : Int32} {x6 : Int32} {z0 z : St} (hM : mX19_askings_54b &&& M = mX19_askings_54b)  (hK2 : ∀ a0 a1 a2 a3, zFr M z0 a3 → zPw M z0 (K2 a0 a1 a2 a3)) (hK54 : ∀ a0 a1 a2 a3 a4 a5 a6, zFr M z0 a6 → zPw M z0 (K54 a0 a1 a2 a3 a4 a5 a6)) (h : zFr M z0 z) : zPw M z0 (fX19_askings_54b N K2 K54 x0 x1 x2 x3 x5 x6 z) := by
  unfold fX19_askings_54b
  exact zw_i (wX19_askings_86 (ztr rfl hM) hK2 _ _ _ _ _ _ _ h) (zw_k (zw_lA h (ztb hM rfl) (fun z3 h1 => zw_l (fun v4 => zw_c (wX19_firstWaiting (ztr rfl hM)  h1) (fun r5 z6 h2 => hK54 _ _ _ _ _ _ _ h2)))))
def mX19_askings_54 : Nat := 0x329b3f200000000000000000000000008820884000000000000120000000000000000000000000000000180000000000000000000000803d0000001000000000000000000000000000002d0000000000000000000000000000000000000000000000000000000000000000000000000000000000000000000000000000000000000000000000000000000000000000000000000000000000000000000000000000000000000000000000000
theorem wX19_askings_54 {M : Nat} {z0 : St} {N : Nat} {K2 : Nat → Nat → Int32 → St → Option (Int32 × St)}(hM : mX19_askings_54 &&& M = mX19_askings_54)  (hK2 : ∀ a0 a1 a2 a3, zFr M z0 a3 → zPw M z0 (K2 a0 a1 a2 a3)) : ∀ (n : Nat) (y0 : Nat) (y1 : Nat) (y2 : Int32) (y3 : Int32) (y4 : Int32) (y5 : Int32) (z : St), zFr M z0 z → zPw M z0 (fX19_askings_54 N K2 n y0 y1 y2 y3 y4 y5 z) := by
  intro n
  induction n with
  | zero => intro y0 y1 y2 y3 y4 y5 z h; exact zw_n
  | succ n ih => intro y0 y1 y2 y3 y4 y5 z h; exact wX19_askings_54b (ztr rfl hM) hK2 (fun _ _ _ _ _ _ _ h => ih _ _ _ _ _ _ _ h) h
def mX19_askings_147 : Nat := 0x0
theorem wX19_askings_147 {M : Nat} {N : Nat} {K2 : Nat → Nat → Int32 → St → Option (Int32 × St)} {x0 : Nat} {x1 : Nat} {x2 : Int32} {z0 z : St} (hM : mX19_askings_147 &&& M = mX19_askings_147)  (hK2 : ∀ a0 a1 a2 a3, zFr M z0 a3 → zPw M z0 (K2 a0 a1 a2 a3)) (h : zFr M z0 z) : zPw M z0 (fX19_askings_147 N K2 x0 x1 x2 z) := by
  unfold fX19_askings_147
  exact zw_l (fun v1 => wX19_askings_150 (ztr rfl hM) hK2 h)
def mX19_askings_141 : Nat := 0x1009102000000000000000000000000088000040000000000000000000000000000000000000000000001800000000000000000000000000000000000000000000000000000000000000000000000000000000000000000000000000000000000000000000000000000000000000000000000000000000000000000000000000000000000000000000000000000000000000000000000000000000000000000000000000000000000000000
theorem wX19_askings_141 {M : Nat} {N : Nat} {K2 : Nat → Nat → Int32 → St → Option (Int32 × St)} {x0 : Nat} {x1 : Nat} {x2 : Int32} {x3 : Int32} {z0 z : St} (hM : mX19_askings_141 &&& M = mX19_askings_141)  (hK2 : ∀ a0 a1 a2 a3, zFr M z0 a3 → zPw M z0 (K2 a0 a1 a2 a3)) (h : zFr M z0 z) : zPw M z0 (fX19_askings_141 N K2 x0 x1 x2 x3 z) := by
  unfold fX19_askings_141
  exact zw_c (wX19_ask (ztr rfl hM)  h) (fun _ z2 h1 => wX19_askings_147 (ztr rfl hM) hK2 h1)
def mX19_askings_2b : Nat := 0x329b3f200000000000000000000000008820884000000000000120000000000000000000000000000000180000000000000000000000803d0000001000000000000000000000000000002d0000000000000000000000000000000000000000000000000000000000000000000000000000000000000000000000000000000000000000000000000000000000000000000000000000000000000000000000000000000000000000000000000
theorem wX19_askings_2b {M : Nat} {N : Nat} {K2 : Nat → Nat → Int32 → St → Option (Int32 × St)} {x0 : Nat} {x1 : Nat} {x2 : Int32} {z0 z : St} (hM : mX19_askings_2b &&& M = mX19_askings_2b)  (hK2 : ∀ a0 a1 a2 a3, zFr M z0 a3 → zPw M z0 (K2 a0 a1 a2 a3)) (h : zFr M z0 z) : zPw M z0 (fX19_askings_2b N K2 x0 x1 x2 z) := by
  unfold fX19_askings_2b
  exact zw_i (zw_s h) (zw_k (zw_l (fun v3 => zw_k (zw_l (fun v5 => zw_i (zw_i (wX19_askings_141 (ztr rfl hM) hK2 h) (zw_i (wX19_askings_147 (ztr rfl hM) hK2 h) (wX19_askings_141 (ztr rfl hM) hK2 h))) (zw_c (wX18_endAsking (ztr rfl hM)  h) (fun _ z10 h1 => zw_c (wX19_firstWaiting (ztr rfl hM)  h1) (fun r13 z14 h2 => wX19_askings_54 (ztr rfl hM) hK2 _ _ _ _ _ _ _ _ h2))))))))
def mX19_askings_2 : Nat := 0x329b3f200000000000000000000000008820884000000000000120000000000000000000000000000000180000000000000000000000803d0000001000000000000000000000000000002d0000000000000000000000000000000000000000000000000000000000000000000000000000000000000000000000000000000000000000000000000000000000000000000000000000000000000000000000000000000000000000000000000
theorem wX19_askings_2 {M : Nat} {z0 : St} {N : Nat}(hM : mX19_askings_2 &&& M = mX19_askings_2)  : ∀ (n : Nat) (y0 : Nat) (y1 : Nat) (y2 : Int32) (z : St), zFr M z0 z → zPw M z0 (fX19_askings_2 N n y0 y1 y2 z) := by
  intro n
  induction n with
  | zero => intro y0 y1 y2 z h; exact zw_n
  | succ n ih => intro y0 y1 y2 z h; exact wX19_askings_2b (ztr rfl hM)  (fun _ _ _ _ h => ih _ _ _ _ h) h
def mX19_askings : Nat := 0x329b3f200000000000000000000000008820884000000000000120000000000000000000000000000000180000000000000000000000803d0000001000000000000000000000000000002d0000000000000000000000000000000000000000000000000000000000000000000000000000000000000000000000000000000000000000000000000000000000000000000000000000000000000000000000000000000000000000000000000
theorem wX19_askings {M : Nat} {N : Nat} {x0 : Nat} {x1 : Nat} {z0 z : St} (hM : mX19_askings &&& M = mX19_askings)  (h : zFr M z0 z) : zPw M z0 (fX19_askings N x0 x1 z) := by
  unfold fX19_askings
  exact wX19_askings_2 (ztr rfl hM)  _ _ _ _ _ h
def mX19_forward : Nat := 0x129b3f200000000000000000000000008820884000000000000120000000000000000000000000000000180000000000000000000000803d0000001000000000000000000000000000002d0000000000000000000000000000000000000000000000000000000000000000000000000000000000000000000000000000000000000000000000000000000000000000000000000000000000000000000000000000000000000000000000000
theorem wX19_forward {M : Nat} {N : Nat} {x0 : Nat} {x1 : Nat} {x2 : Int32} {z0 z : St} (hM : mX19_forward &&& M = mX19_forward)  (h : zFr M z0 z) : zPw M z0 (fX19_forward N x0 x1 x2 z) := by
  unfold fX19_forward
  exact zw_c (wX19_of (ztr rfl hM)  h) (fun r1 z2 h1 => zw_c (wX19_set (ztr rfl hM)  h1) (fun _ z6 h2 => zw_c (wX19_of (ztr rfl hM)  h2) (fun r9 z10 h3 => zw_i (zw_c (wX19_routerSends (ztr rfl hM)  h3) (fun _ z15 h4 => zw_s h4)) (zw_c (wX19_comeBack (ztr rfl hM)  h3) (fun _ z19 h5 => zw_s h5)))))
def mX19_endPieces_19b : Nat := 0x100000000000000000000000000000000000000000000000000000000000000000000000000000000000000000000000000000000000000000000000000000000000000000000000000000000000000000000000000000000000000000000000000000000000000000000000000000000000000000000000000000000000000000000000000000000000000000000000000000000000000000000000000000000000000000000
theorem wX19_endPieces_19b {M : Nat} {N : Nat} {K19 : Nat → Option Nat → Int32 → St → Option (Int32 × St)} {x0 : Nat} {x2 : Option Nat} {x3 : Int32} {z0 z : St} (hM : mX19_endPieces_19b &&& M = mX19_endPieces_19b)  (hK19 : ∀ a0 a1 a2 a3, zFr M z0 a3 → zPw M z0 (K19 a0 a1 a2 a3)) (h : zFr M z0 z) : zPw M z0 (fX19_endPieces_19b N K19 x0 x2 x3 z) := by
  unfold fX19_endPieces_19b
  exact zw_i (zw_k (zw_lQ h (ztb hM rfl) (fun z3 h1 => zw_s h1))) (zw_k (zw_l (fun y5 => zw_k (zw_lQ h (ztb hM rfl) (fun z7 h2 => zw_l (fun v8 => hK19 _ _ _ _ h2))))))
def mX19_endPieces_19 : Nat := 0x100000000000000000000000000000000000000000000000000000000000000000000000000000000000000000000000000000000000000000000000000000000000000000000000000000000000000000000000000000000000000000000000000000000000000000000000000000000000000000000000000000000000000000000000000000000000000000000000000000000000000000000000000000000000000000000
theorem wX19_endPieces_19 {M : Nat} {z0 : St} {N : Nat}(hM : mX19_endPieces_19 &&& M = mX19_endPieces_19)  : ∀ (n : Nat) (y0 : Nat) (y1 : Option Nat) (y2 : Int32) (z : St), zFr M z0 z → zPw M z0 (fX19_endPieces_19 N n y0 y1 y2 z) := by
  intro n
  induction n with
  | zero => intro y0 y1 y2 z h; exact zw_n
  | succ n ih => intro y0 y1 y2 z h; exact wX19_endPieces_19b (ztr rfl hM)  (fun _ _ _ _ h => ih _ _ _ _ h) h
def mX19_endPieces : Nat := 0x100000000000000000000000000000000000000000000000000000000000000000000000000000000000000000000000000000000000000000000000000000000000000000800000000000000000000000000000000000000000000000000000000000000000000000000000000000000000000000000000000000000000000000000000000000000000000000000000000000000000000000000000000000000000000000000
theorem wX19_endPieces {M : Nat} {N : Nat} {x0 : Nat} {x1 : Int32} {z0 z : St} (hM : mX19_endPieces &&& M = mX19_endPieces)  (h : zFr M z0 z) : zPw M z0 (fX19_endPieces N x0 x1 z) := by
  unfold fX19_endPieces
  exact zw_k (zw_l (fun y2 => zw_lI h (ztb hM rfl) (fun z3 h1 => wX19_endPieces_19 (ztr rfl hM)  _ _ _ _ _ h1)))
def mX19_neighbour_43 : Nat := 0x0
theorem wX19_neighbour_43 {M : Nat} {N : Nat} {K2 : Nat → Int32 → Int32 → Int32 → St → Option (Option Nat × St)} {x0 : Nat} {x1 : Int32} {x2 : Int32} {x3 : Int32} {z0 z : St} (hM : mX19_neighbour_43 &&& M = mX19_neighbour_43)  (hK2 : ∀ a0 a1 a2 a3 a4, zFr M z0 a4 → zPw M z0 (K2 a0 a1 a2 a3 a4)) (h : zFr M z0 z) : zPw M z0 (fX19_neighbour_43 N K2 x0 x1 x2 x3 z) := by
  unfold fX19_neighbour_43
  exact zw_l (fun v1 => hK2 _ _ _ _ _ h)
def mX19_neighbour_2b : Nat := 0x0
theorem wX19_neighbour_2b {M : Nat} {N : Nat} {K2 : Nat → Int32 → Int32 → Int32 → St → Option (Option Nat × St)} {x0 : Nat} {x1 : Int32} {x2 : Int32} {x3 : Int32} {z0 z : St} (hM : mX19_neighbour_2b &&& M = mX19_neighbour_2b)  (hK2 : ∀ a0 a1 a2 a3 a4, zFr M z0 a4 → zPw M z0 (K2 a0 a1 a2 a3 a4)) (h : zFr M z0 z) : zPw M z0 (fX19_neighbour_2b N K2 x0 x1 x2 x3 z) := by
  unfold fX19_neighbour_2b
  exact zw_i (zw_s h) (zw_k (zw_l (fun y3 => zw_d (fun a4 => zw_i (wX19_neighbour_43 (ztr rfl hM) hK2 h) (zw_k (zw_l (fun y7 => zw_d (fun a8 => zw_i (wX19_neighbour_43 (ztr rfl hM) hK2 h) (zw_k (zw_l (fun y11 => zw_s h)))))))))))
def mX19_neighbour_2 : Nat := 0x0
theorem wX19_neighbour_2 {M : Nat} {z0 : St} {N : Nat}(hM : mX19_neighbour_2 &&& M = mX19_neighbour_2)  : ∀ (n : Nat) (y0 : Nat) (y1 : Int32) (y2 : Int32) (y3 : Int32) (z : St), zFr M z0 z → zPw M z0 (fX19_neighbour_2 N n y0 y1 y2 y3 z) := by
  intro n
  induction n with
  | zero => intro y0 y1 y2 y3 z h; exact zw_n
  | succ n ih => intro y0 y1 y2 y3 z h; exact wX19_neighbour_2b (ztr rfl hM)  (fun _ _ _ _ _ h => ih _ _ _ _ _ h) h
def mX19_neighbour : Nat := 0x0
theorem wX19_neighbour {M : Nat} {N : Nat} {x0 : Nat} {x1 : Int32} {x2 : Int32} {z0 z : St} (hM : mX19_neighbour &&& M = mX19_neighbour)  (h : zFr M z0 z) : zPw M z0 (fX19_neighbour N x0 x1 x2 z) := by
  unfold fX19_neighbour
  exact wX19_neighbour_2 (ztr rfl hM)  _ _ _ _ _ _ h
def mX19_friend : Nat := 0x0
theorem wX19_friend {M : Nat} {N : Nat} {x0 : Nat} {x1 : Int32} {x2 : Int32} {z0 z : St} (hM : mX19_friend &&& M = mX19_friend)  (h : zFr M z0 z) : zPw M z0 (fX19_friend N x0 x1 x2 z) := by
  unfold fX19_friend
  exact zw_c (wX19_neighbour (ztr rfl hM)  h) (fun r1 z2 h1 => zw_o (zw_s h1) (fun a6 => zw_i (zw_s h1) (zw_s h1)))
def mX19_isDue : Nat := 0xc00000000000000000000000000000000000000000000000000000000000000000000000000000000000000000000000000000000000000000000000000000000000000000000000000000000000000000000000000000000000000000000000000000000000000000000000000000000000000000000000000000000000000000000000000000000000000000000000000000000000000000000000000000000000000000000000
theorem wX19_isDue {M : Nat} {N : Nat} {x0 : Nat} {x1 : Nat} {x2 : Int32} {z0 z : St} (hM : mX19_isDue &&& M = mX19_isDue)  (h : zFr M z0 z) : zPw M z0 (fX19_isDue N x0 x1 x2 z) := by
  unfold fX19_isDue
  exact zw_k (zw_lA h (ztb hM rfl) (fun z2 h1 => zw_k (zw_lA h1 (ztb hM rfl) (fun z4 h2 => zw_s h2))))
def mX19_take_97 : Nat := 0x0
theorem wX19_take_97 {M : Nat} {N : Nat} {K57 : Nat → Nat → Option Nat → Int32 → Int32 → St → Option (Int32 × St)} {x0 : Nat} {x1 : Nat} {x3 : Option Nat} {x4 : Int32} {x5 : Int32} {z0 z : St} (hM : mX19_take_97 &&& M = mX19_take_97)  (hK57 : ∀ a0 a1 a2 a3 a4 a5, zFr M z0 a5 → zPw M z0 (K57 a0 a1 a2 a3 a4 a5)) (h : zFr M z0 z) : zPw M z0 (fX19_take_97 N K57 x0 x1 x3 x4 x5 z) := by
  unfold fX19_take_97
  exact zw_l (fun v1 => hK57 _ _ _ _ _ _ h)
def mX19_take_57b : Nat := 0xc00000000000000000000000000000000000000000000000000000000000000000000000000000000000000000000000000000000000000000000000000000000000000000000000000000000000000000000000000000000000000000000000000000000000000000000000000000000000000000000000000000000000000000000000000000000000000000000000000000000000000000000000000000000000000000000000
theorem wX19_take_57b {M : Nat} {N : Nat} {K57 : Nat → Nat → Option Nat → Int32 → Int32 → St → Option (Int32 × St)} {x0 : Nat} {x1 : Nat} {x3 : Option Nat} {x4 : Int32} {x5 : Int32} {z0 z : St} (hM : mX19_take_57b &&& M = mX19_take_57b)  (hK57 : ∀ a0 a1 a2 a3 a4 a5, zFr M z0 a5 → zPw M z0 (K57 a0 a1 a2 a3 a4 a5)) (h : zFr M z0 z) : zPw M z0 (fX19_take_57b N K57 x0 x1 x3 x4 x5 z) := by
  unfold fX19_take_57b
  exact zw_i (zw_s h) (zw_k (zw_l (fun y3 => zw_i (wX19_take_97 (ztr rfl hM) hK57 h) (zw_d (fun a5 => zw_i (wX19_take_97 (ztr rfl hM) hK57 h) (zw_c (wX19_isDue (ztr rfl hM)  h) (fun _ z8 h1 => wX19_take_97 (ztr rfl hM) hK57 h1)))))))
def mX19_take_57 : Nat := 0xc00000000000000000000000000000000000000000000000000000000000000000000000000000000000000000000000000000000000000000000000000000000000000000000000000000000000000000000000000000000000000000000000000000000000000000000000000000000000000000000000000000000000000000000000000000000000000000000000000000000000000000000000000000000000000000000000
theorem wX19_take_57 {M : Nat} {z0 : St} {N : Nat}(hM : mX19_take_57 &&& M = mX19_take_57)  : ∀ (n : Nat) (y0 : Nat) (y1 : Nat) (y2 : Option Nat) (y3 : Int32) (y4 : Int32) (z : St), zFr M z0 z → zPw M z0 (fX19_take_57 N n y0 y1 y2 y3 y4 z) := by
  intro n
  induction n with
  | zero => intro y0 y1 y2 y3 y4 z h; exact zw_n
  | succ n ih => intro y0 y1 y2 y3 y4 z h; exact wX19_take_57b (ztr rfl hM)  (fun _ _ _ _ _ _ h => ih _ _ _ _ _ _ h) h
def mX19_take_30 : Nat := 0xc00c00000000000000000000000000000000000000000000000000000000000000000000000000000000000000000000000000000000000000000000000000000000000000800000000000000000000000000000000000000000000000000000000000000000000000000000000000000000000000000000000000000000000000000000000000000000000000000000000000000000000000000000000000000000000000000000
theorem wX19_take_30 {M : Nat} {N : Nat} {x0 : Nat} {x1 : Nat} {x2 : Int32} {x3 : Option Nat} {x4 : Int32} {z0 z : St} (hM : mX19_take_30 &&& M = mX19_take_30)  (h : zFr M z0 z) : zPw M z0 (fX19_take_30 N x0 x1 x2 x3 x4 z) := by
  unfold fX19_take_30
  exact zw_k (zw_lA h (ztb hM rfl) (fun z2 h1 => zw_k (zw_lA h1 (ztb hM rfl) (fun z4 h2 => zw_lI h2 (ztb hM rfl) (fun z5 h3 => wX19_take_57 (ztr rfl hM)  _ _ _ _ _ _ _ h3)))))
def mX19_take : Nat := 0x18000c00c00000000000000000000000008000000000000000000000000000000000000000000000000000000000000000000000000000000000000000000000000000000000000800000000000000000000000000000000000000000000000000000000000000000000000000000000000000000000000000000000000000000000000000000000000000000000000000000000000000000000000000000000000000000000000000000
theorem wX19_take {M : Nat} {N : Nat} {x0 : Nat} {x1 : Nat} {x2 : Int32} {x3 : Option Nat} {z0 z : St} (hM : mX19_take &&& M = mX19_take)  (h : zFr M z0 z) : zPw M z0 (fX19_take N x0 x1 x2 x3 z) := by
  unfold fX19_take
  exact zw_c (wX19_ad (ztr rfl hM)  h) (fun r1 z2 h1 => zw_k (zw_i (wX19_take_30 (ztr rfl hM)  h1) (zw_k (zw_c (wX19_dropAdvert (ztr rfl hM)  h1) (fun _ z9 h2 => wX19_take_30 (ztr rfl hM)  h2)))))
def mX19_advertCame_217 : Nat := 0x20000000000000000000000000000000000000000000000000000000000000000000000000000000000000000000000000000000000000000000000000000000000000000000000000000000000000000000000000000000000000000000000000000
theorem wX19_advertCame_217 {M : Nat} {N : Nat} {x1 : Nat} {x5 : Int32} {x6 : Int32} {z0 z : St} (hM : mX19_advertCame_217 &&& M = mX19_advertCame_217)  (h : zFr M z0 z) : zPw M z0 (fX19_advertCame_217 N x1 x5 x6 z) := by
  unfold fX19_advertCame_217
  exact zw_i (zw_s h) (zw_i (zw_s h) (zw_lI h (ztb hM rfl) (fun z3 h1 => zw_s h1)))
def mX19_advertCame_179 : Nat := 0x18000c00c00000000000000000000000008000000000000000000000000000000000000000000000000000000000000000000000000000000000000000000000000000000000000820000000000000000000000000000000000000000000000000000000000000000000000000000000000000000000000000000000000000000000000000000000000000000000000000000000000000000000000000000000000000000000000000000
theorem wX19_advertCame_179 {M : Nat} {N : Nat} {x0 : Nat} {x1 : Nat} {x3 : Nat} {x4 : Int32} {x5 : Int32} {x6 : Int32} {x7 : Int32} {z0 z : St} (hM : mX19_advertCame_179 &&& M = mX19_advertCame_179)  (h : zFr M z0 z) : zPw M z0 (fX19_advertCame_179 N x0 x1 x3 x4 x5 x6 x7 z) := by
  unfold fX19_advertCame_179
  exact zw_i (wX19_advertCame_217 (ztr rfl hM)  h) (zw_i (wX19_advertCame_217 (ztr rfl hM)  h) (zw_k (zw_k (zw_lA h (ztb hM rfl) (fun z5 h1 => zw_c (wX19_take (ztr rfl hM)  h1) (fun _ z7 h2 => zw_s h2))))))
def mX19_advertCame_152 : Nat := 0x18000c00c00000000000000000000000008000000000000000000000000000000000000000000000000000000000000000000000000000000000000000000000000000000000000820000000000000000000000000000000000000000000000000000000000000000000000000000000000000000000000000000000000000000000000000000000000000000000000000000000000000000000000000000000000000000000000000000
theorem wX19_advertCame_152 {M : Nat} {N : Nat} {x0 : Nat} {x1 : Nat} {x3 : Nat} {x4 : Int32} {x5 : Int32} {x6 : Int32} {s0 : Int32} {z0 z : St} (hM : mX19_advertCame_152 &&& M = mX19_advertCame_152)  (h : zFr M z0 z) : zPw M z0 (fX19_advertCame_152 N x0 x1 x3 x4 x5 x6 s0 z) := by
  unfold fX19_advertCame_152
  exact zw_i (zw_c (wX19_isDue (ztr rfl hM)  h) (fun _ z3 h1 => wX19_advertCame_179 (ztr rfl hM)  h1)) (zw_k (zw_lA h (ztb hM rfl) (fun z7 h2 => wX19_advertCame_179 (ztr rfl hM)  h2)))
def mX19_advertCame_125 : Nat := 0x18000c00c00000000000000000000000008000000000000000000000000000000000000000000000000000000000000000000000000000000000000000000000000000000000000820000000000000000000000000000000000000000000000000000000000000000000000000000000000000000000000000000000000000000000000000000000000000000000000000000000000000000000000000000000000000000000000000000
theorem wX19_advertCame_125 {M : Nat} {N : Nat} {x0 : Nat} {x1 : Nat} {x3 : Nat} {x4 : Int32} {x5 : Int32} {x6 : Int32} {z0 z : St} (hM : mX19_advertCame_125 &&& M = mX19_advertCame_125)  (h : zFr M z0 z) : zPw M z0 (fX19_advertCame_125 N x0 x1 x3 x4 x5 x6 z) := by
  unfold fX19_advertCame_125
  exact zw_k (zw_i (zw_k (zw_c (wX19_ad (ztr rfl hM)  h) (fun r4 z5 h1 => wX19_advertCame_152 (ztr rfl hM)  h1))) (wX19_advertCame_152 (ztr rfl hM)  h))
def mX19_advertCame : Nat := 0x18000c07c00000000000000000000080008000000000000000000000000000000000000000000000000000000000000000000000000000000000000000000000000000000000000c20000000000000000000000000000000000000000000000000000000000000000000000000000000000000000000000000000000000000000000000000000000000000000000000000000000000000000000000000000000000000000000000000000
theorem wX19_advertCame {M : Nat} {N : Nat} {x0 : Nat} {x1 : Nat} {x2 : Int32} {z0 z : St} (hM : mX19_advertCame &&& M = mX19_advertCame)  (h : zFr M z0 z) : zPw M z0 (fX19_advertCame N x0 x1 x2 z) := by
  unfold fX19_advertCame
  exact zw_c (wX19_of (ztr rfl hM)  h) (fun r1 z2 h1 => zw_c (wX19_of (ztr rfl hM)  h1) (fun r5 z6 h2 => zw_c (wX19_friend (ztr rfl hM)  h2) (fun r9 z10 h3 => zw_o (zw_s h3) (fun a14 => zw_c (wX19_of (ztr rfl hM)  h3) (fun r15 z16 h4 => zw_c (wX19_ad (ztr rfl hM)  h4) (fun r19 z20 h5 => zw_c (wX19_ad (ztr rfl hM)  h5) (fun r23 z24 h6 => zw_i (zw_c (wX19_stir (ztr rfl hM)  h6) (fun _ z29 h7 => wX19_advertCame_125 (ztr rfl hM)  h7)) (zw_c (wX19_of (ztr rfl hM)  h6) (fun r32 z33 h8 => zw_k (zw_lA h8 (ztb hM rfl) (fun z37 h9 => zw_c (wX19_of (ztr rfl hM)  h9) (fun r38 z39 h10 => zw_k (zw_lA h10 (ztb hM rfl) (fun z43 h11 => zw_k (zw_lA h11 (ztb hM rfl) (fun z45 h12 => zw_lI h12 (ztb hM rfl) (fun z46 h13 => wX19_advertCame_125 (ztr rfl hM)  h13)))))))))))))))))
def mX19_newNeighbour_70 : Nat := 0x200000000000000000000000000000000000000000000000000000000000000000000000000000000000000000000000000000000000000000000000000000000000000000000000000000000000000000000000000000000000000000000000000000000000000000000000000000000000000000000000000000000000000000000000000000000000000000000000000000000000000000000000000000000000000000000
theorem wX19_newNeighbour_70 {M : Nat} {N : Nat} {K17 : Nat → Int32 → Int32 → Option Nat → Int32 → St → Option (Option Nat × St)} {x1 : Nat} {x2 : Int32} {x3 : Int32} {x4 : Option Nat} {x5 : Int32} {z0 z : St} (hM : mX19_newNeighbour_70 &&& M = mX19_newNeighbour_70)  (hK17 : ∀ a0 a1 a2 a3 a4 a5, zFr M z0 a5 → zPw M z0 (K17 a0 a1 a2 a3 a4 a5)) (h : zFr M z0 z) : zPw M z0 (fX19_newNeighbour_70 N K17 x1 x2 x3 x4 x5 z) := by
  unfold fX19_newNeighbour_70
  exact zw_k (zw_l (fun y2 => zw_k (zw_lQ h (ztb hM rfl) (fun z4 h1 => zw_l (fun v5 => hK17 _ _ _ _ _ _ h1)))))
def mX19_newNeighbour_132b : Nat := 0xc00000000000000000000000000000000000000000000000000000000000000000000000000000000000000000000000000000000000000000000000000000000000000000000000000000000000000000000000000000000000000000000000000000000000000000000000000000000000000000000000000000000000000000000000000000000000000000000000000000000000000000000000000000000000000000000000
theorem wX19_newNeighbour_132b {M : Nat} {N : Nat} {K132 : Nat → Int32 → St → Option (Option Nat × St)} {x4 : Nat} {x6 : Int32} {z0 z : St} (hM : mX19_newNeighbour_132b &&& M = mX19_newNeighbour_132b)  (hK132 : ∀ a0 a1 a2, zFr M z0 a2 → zPw M z0 (K132 a0 a1 a2)) (h : zFr M z0 z) : zPw M z0 (fX19_newNeighbour_132b N K132 x4 x6 z) := by
  unfold fX19_newNeighbour_132b
  exact zw_i (zw_s h) (zw_k (zw_lA h (ztb hM rfl) (fun z3 h1 => zw_k (zw_lA h1 (ztb hM rfl) (fun z5 h2 => zw_l (fun v6 => hK132 _ _ _ h2))))))
def mX19_newNeighbour_132 : Nat := 0xc00000000000000000000000000000000000000000000000000000000000000000000000000000000000000000000000000000000000000000000000000000000000000000000000000000000000000000000000000000000000000000000000000000000000000000000000000000000000000000000000000000000000000000000000000000000000000000000000000000000000000000000000000000000000000000000000
theorem wX19_newNeighbour_132 {M : Nat} {z0 : St} {N : Nat}(hM : mX19_newNeighbour_132 &&& M = mX19_newNeighbour_132)  : ∀ (n : Nat) (y0 : Nat) (y1 : Int32) (z : St), zFr M z0 z → zPw M z0 (fX19_newNeighbour_132 N n y0 y1 z) := by
  intro n
  induction n with
  | zero => intro y0 y1 z h; exact zw_n
  | succ n ih => intro y0 y1 z h; exact wX19_newNeighbour_132b (ztr rfl hM)  (fun _ _ _ h => ih _ _ _ h) h
def mX19_newNeighbour_92 : Nat := 0xc0020000000000000000000000000000000000000000000000000000000000000000000000000000000000000000000b000000000000000000000000000000000000000000002000000000000000000000000000000000000000000000000000000000000000000000000000000000000000000000000000000000000000000000000000000000000000000000000000000000000000000000000000000000000000000000000000
theorem wX19_newNeighbour_92 {M : Nat} {N : Nat} {x1 : Nat} {x2 : Int32} {x3 : Int32} {x4 : Option Nat} {x5 : Int32} {z0 z : St} (hM : mX19_newNeighbour_92 &&& M = mX19_newNeighbour_92)  (h : zFr M z0 z) : zPw M z0 (fX19_newNeighbour_92 N x1 x2 x3 x4 x5 z) := by
  unfold fX19_newNeighbour_92
  exact zw_k (zw_lQ h (ztb hM rfl) (fun z2 h1 => zw_lI h1 (ztb hM rfl) (fun z3 h2 => zw_d (fun a4 => zw_lI h2 (ztb hM rfl) (fun z5 h3 => zw_lI h3 (ztb hM rfl) (fun z6 h4 => zw_lI h4 (ztb hM rfl) (fun z7 h5 => wX19_newNeighbour_132 (ztr rfl hM)  _ _ _ _ h5)))))))
def mX19_newNeighbour_17b : Nat := 0xc0020000000000000000000000000000000000000000000000000000000000000000000000000000000000000000000b000000000000000000000000000000000000000000002000000000000000000000000000000000000000000000000000000000000000000000000000000000000000000000000000000000000000000000000000000000000000000000000000000000000000000000000000000000000000000000000000
theorem wX19_newNeighbour_17b {M : Nat} {N : Nat} {K17 : Nat → Int32 → Int32 → Option Nat → Int32 → St → Option (Option Nat × St)} {x1 : Nat} {x2 : Int32} {x3 : Int32} {x4 : Option Nat} {x5 : Int32} {z0 z : St} (hM : mX19_newNeighbour_17b &&& M = mX19_newNeighbour_17b)  (hK17 : ∀ a0 a1 a2 a3 a4 a5, zFr M z0 a5 → zPw M z0 (K17 a0 a1 a2 a3 a4 a5)) (h : zFr M z0 z) : zPw M z0 (fX19_newNeighbour_17b N K17 x1 x2 x3 x4 x5 z) := by
  unfold fX19_newNeighbour_17b
  exact zw_i (wX19_newNeighbour_92 (ztr rfl hM)  h) (zw_k (zw_l (fun y3 => zw_d (fun a4 => zw_i (wX19_newNeighbour_70 (ztr rfl hM) hK17 h) (zw_k (zw_l (fun y7 => zw_d (fun a8 => zw_i (wX19_newNeighbour_92 (ztr rfl hM)  h) (zw_k (zw_l (fun y11 => zw_d (fun a12 => zw_i (wX19_newNeighbour_92 (ztr rfl hM)  h) (wX19_newNeighbour_70 (ztr rfl hM) hK17 h)))))))))))))
def mX19_newNeighbour_17 : Nat := 0xc0020000000000000000000000000000000000000000000000000000000000000000000000000000000000000000000b000000000000000000000000000000000000000000002000000000000000000000000000000000000000000000000000000000000000000000000000000000000000000000000000000000000000000000000000000000000000000000000000000000000000000000000000000000000000000000000000
theorem wX19_newNeighbour_17 {M : Nat} {z0 : St} {N : Nat}(hM : mX19_newNeighbour_17 &&& M = mX19_newNeighbour_17)  : ∀ (n : Nat) (y0 : Nat) (y1 : Int32) (y2 : Int32) (y3 : Option Nat) (y4 : Int32) (z : St), zFr M z0 z → zPw M z0 (fX19_newNeighbour_17 N n y0 y1 y2 y3 y4 z) := by
  intro n
  induction n with
  | zero => intro y0 y1 y2 y3 y4 z h; exact zw_n
  | succ n ih => intro y0 y1 y2 y3 y4 z h; exact wX19_newNeighbour_17b (ztr rfl hM)  (fun _ _ _ _ _ _ h => ih _ _ _ _ _ _ h) h
def mX19_newNeighbour : Nat := 0xc0020000000000000000000000000000000000000000000000000000000000000000000000000000000000000000000b000000000000000000000000000000000000000000002000000000000000000000000000000000000000000000000000000000000000000000000000000000000000000000000000000000000000000000000000000000000000000000000000000000000000000000000000000000000000000000000000
theorem wX19_newNeighbour {M : Nat} {N : Nat} {x0 : Nat} {x1 : Nat} {x2 : Int32} {x3 : Int32} {z0 z : St} (hM : mX19_newNeighbour &&& M = mX19_newNeighbour)  (h : zFr M z0 z) : zPw M z0 (fX19_newNeighbour N x0 x1 x2 x3 z) := by
  unfold fX19_newNeighbour
  exact zw_k (zw_l (fun y2 => zw_l (fun v3 => wX19_newNeighbour_17 (ztr rfl hM)  _ _ _ _ _ _ _ h)))
def mX19_greeted_165 : Nat := 0xc00000000000000000000000000000000000000000000000000000000000000000000000000000000000000000000000000000000000000000000000000000000000000000000000000000000000000000000000000000000000000000000000000000000000000000000000000000000000000000000000000000000000000000000000000000000000000000000000000000000000000000000000000000000000000000000000
theorem wX19_greeted_165 {M : Nat} {N : Nat} {K117 : Nat → Nat → Nat → Int32 → Int32 → St → Option (Int32 × St)} {x0 : Nat} {x1 : Nat} {x5 : Nat} {x6 : Int32} {x7 : Int32} {s0 : Nat} {s1 : Int32} {s2 : Int32} {z0 z : St} (hM : mX19_greeted_165 &&& M = mX19_greeted_165)  (hK117 : ∀ a0 a1 a2 a3 a4 a5, zFr M z0 a5 → zPw M z0 (K117 a0 a1 a2 a3 a4 a5)) (h : zFr M z0 z) : zPw M z0 (fX19_greeted_165 N K117 x0 x1 x5 x6 x7 s0 s1 s2 z) := by
  unfold fX19_greeted_165
  exact zw_k (zw_lA h (ztb hM rfl) (fun z2 h1 => zw_k (zw_lA h1 (ztb hM rfl) (fun z4 h2 => zw_l (fun v5 => hK117 _ _ _ _ _ _ h2)))))
def mX19_greeted_164 : Nat := 0xc00000000000000000000000000000000000000000000000000000000000000000000000000000000000000000000000000000000000000000000000000000000000000000000000000000000000000000000000000000000000000000000000000000000000000000000000000000000000000000000000000000000000000000000000000000000000000000000000000000000000000000000000000000000000000000000000
theorem wX19_greeted_164 {M : Nat} {N : Nat} {K117 : Nat → Nat → Nat → Int32 → Int32 → St → Option (Int32 × St)} {x0 : Nat} {x1 : Nat} {x5 : Nat} {x6 : Int32} {x7 : Int32} {s0 : Nat} {s1 : Int32} {z0 z : St} (hM : mX19_greeted_164 &&& M = mX19_greeted_164)  (hK117 : ∀ a0 a1 a2 a3 a4 a5, zFr M z0 a5 → zPw M z0 (K117 a0 a1 a2 a3 a4 a5)) (h : zFr M z0 z) : zPw M z0 (fX19_greeted_164 N K117 x0 x1 x5 x6 x7 s0 s1 z) := by
  unfold fX19_greeted_164
  exact wX19_greeted_165 (ztr rfl hM) hK117 h
def mX19_greeted_117b : Nat := 0xc00000000000000000000000000000000000000000000000000000000000000000000000000000000000000000000000000000000000000000000000000000000000000000000000000000000000000000000000000000000000000000000000000000000000000000000000000000000000000000000000000000000000000000000000000000000000000000000000000000000000000000000000000000000000000000000000
theorem wX19_greeted_117b {M : Nat} {N : Nat} {K117 : Nat → Nat → Nat → Int32 → Int32 → St → Option (Int32 × St)} {x0 : Nat} {x1 : Nat} {x5 : Nat} {x6 : Int32} {x7 : Int32} {z0 z : St} (hM : mX19_greeted_117b &&& M = mX19_greeted_117b)  (hK117 : ∀ a0 a1 a2 a3 a4 a5, zFr M z0 a5 → zPw M z0 (K117 a0 a1 a2 a3 a4 a5)) (h : zFr M z0 z) : zPw M z0 (fX19_greeted_117b N K117 x0 x1 x5 x6 x7 z) := by
  unfold fX19_greeted_117b
  exact zw_i (zw_s h) (zw_i (zw_s h) (zw_i (wX19_greeted_164 (ztr rfl hM) hK117 h) (zw_k (zw_i (wX19_greeted_164 (ztr rfl hM) hK117 h) (wX19_greeted_165 (ztr rfl hM) hK117 h)))))
def mX19_greeted_117 : Nat := 0xc00000000000000000000000000000000000000000000000000000000000000000000000000000000000000000000000000000000000000000000000000000000000000000000000000000000000000000000000000000000000000000000000000000000000000000000000000000000000000000000000000000000000000000000000000000000000000000000000000000000000000000000000000000000000000000000000
theorem wX19_greeted_117 {M : Nat} {z0 : St} {N : Nat}(hM : mX19_greeted_117 &&& M = mX19_greeted_117)  : ∀ (n : Nat) (y0 : Nat) (y1 : Nat) (y2 : Nat) (y3 : Int32) (y4 : Int32) (z : St), zFr M z0 z → zPw M z0 (fX19_greeted_117 N n y0 y1 y2 y3 y4 z) := by
  intro n
  induction n with
  | zero => intro y0 y1 y2 y3 y4 z h; exact zw_n
  | succ n ih => intro y0 y1 y2 y3 y4 z h; exact wX19_greeted_117b (ztr rfl hM)  (fun _ _ _ _ _ _ h => ih _ _ _ _ _ _ h) h
def mX19_greeted_111 : Nat := 0xc00000000000000000000000000000000000000000000000000000000000000000000000000000000000000000000000000000000000000000000000000000000000000001000000000000000000000000000000000000000000000000000000000000000000000000000000000000000000000000000000000000000000000000000000000000000000000000000000000000000000000000000000000000000000000000000000
theorem wX19_greeted_111 {M : Nat} {N : Nat} {x0 : Nat} {x1 : Nat} {x5 : Nat} {x6 : Int32} {s0 : Nat} {s1 : Int32} {z0 z : St} (hM : mX19_greeted_111 &&& M = mX19_greeted_111)  (h : zFr M z0 z) : zPw M z0 (fX19_greeted_111 N x0 x1 x5 x6 s0 s1 z) := by
  unfold fX19_greeted_111
  exact zw_q (zw_lI h (ztb hM rfl) (fun z1 h1 => wX19_greeted_117 (ztr rfl hM)  _ _ _ _ _ _ _ h1))
def mX19_greeted_106 : Nat := 0xc00000000000000000000000000000000000000000000000000000000000000000000000000000000000000000000000000000000000000000000000000000000000000001000000000000000000000000000000000000000000000000000000000000000000000000000000000000000000000000000000000000000000000000000000000000000000000000000000000000000000000000000000000000000000000000000000
theorem wX19_greeted_106 {M : Nat} {N : Nat} {x0 : Nat} {x1 : Nat} {x5 : Nat} {x6 : Int32} {s0 : Nat} {z0 z : St} (hM : mX19_greeted_106 &&& M = mX19_greeted_106)  (h : zFr M z0 z) : zPw M z0 (fX19_greeted_106 N x0 x1 x5 x6 s0 z) := by
  unfold fX19_greeted_106
  exact wX19_greeted_111 (ztr rfl hM)  h
def mX19_greeted_85 : Nat := 0xc00000000000000000000000000000000000000000000000000000000000000000000000000000000000000000000008000000000000000000000000000000000000000001000000000000000000000000000000000000000000000000000000000000000000000000000000000000000000000000000000000000000000000000000000000000000000000000000000000000000000000000000000000000000000000000000000
theorem wX19_greeted_85 {M : Nat} {N : Nat} {x0 : Nat} {x1 : Nat} {x5 : Nat} {x6 : Int32} {s0 : Nat} {s1 : Int32} {z0 z : St} (hM : mX19_greeted_85 &&& M = mX19_greeted_85)  (h : zFr M z0 z) : zPw M z0 (fX19_greeted_85 N x0 x1 x5 x6 s0 s1 z) := by
  unfold fX19_greeted_85
  exact zw_q (zw_lI h (ztb hM rfl) (fun z1 h1 => zw_i (wX19_greeted_106 (ztr rfl hM)  h1) (zw_i (wX19_greeted_111 (ztr rfl hM)  h1) (wX19_greeted_106 (ztr rfl hM)  h1))))
def mX19_greeted_49 : Nat := 0xc0000000000000000000000000000000000000000000000000000000000000000000000000000000000000000000000c000000000000000000000000000000000000000001000000000000000000000000000000000000000000000000000000000000000000000000000000000000000000000000000000000000000000000000000000000000000000000000000000000000000000000000000000000000000000000000000000
theorem wX19_greeted_49 {M : Nat} {N : Nat} {x0 : Nat} {x1 : Nat} {x4 : Int32} {x5 : Option Nat} {z0 z : St} (hM : mX19_greeted_49 &&& M = mX19_greeted_49)  (h : zFr M z0 z) : zPw M z0 (fX19_greeted_49 N x0 x1 x4 x5 z) := by
  unfold fX19_greeted_49
  exact zw_d (fun a1 => zw_l (fun v2 => zw_lI h (ztb hM rfl) (fun z3 h1 => zw_i (wX19_greeted_85 (ztr rfl hM)  h1) (wX19_greeted_85 (ztr rfl hM)  h1))))
def mX19_greeted : Nat := 0xc0020000000000000000000008000000000000000000000000000000000000000000000000000000000000000000000f000000000000000000000000000000000000000001002000000000000000000000000000000000000000000000000000000000000000000000000000000000000000000000000000000000000000000000000000000000000000000000000000000000000000000000000000000000000000000000000000
theorem wX19_greeted {M : Nat} {N : Nat} {x0 : Nat} {x1 : Nat} {x2 : Int32} {x3 : Int32} {x4 : Int32} {z0 z : St} (hM : mX19_greeted &&& M = mX19_greeted)  (h : zFr M z0 z) : zPw M z0 (fX19_greeted N x0 x1 x2 x3 x4 z) := by
  unfold fX19_greeted
  exact zw_k (zw_l (fun y2 => zw_d (fun a3 => zw_i (zw_c (wX19_neighbour (ztr rfl hM)  h) (fun r5 z6 h1 => zw_o (zw_i (zw_c (wX19_newNeighbour (ztr rfl hM)  h1) (fun r12 z13 h2 => wX19_greeted_49 (ztr rfl hM)  h2)) (zw_c (wX19_stir (ztr rfl hM)  h1) (fun _ z17 h3 => zw_s h3))) (fun a10 => wX19_greeted_49 (ztr rfl hM)  h1))) (zw_s h))))
def mX19_answer : Nat := 0xf00000000000000000000000000000000000000000000000000000000000000000000000000000000000000000000000000000000000000000000000000000000000000000000000000000000000000000000000000000000000000000000000000000000000000000000000000000000000000
theorem wX19_answer {M : Nat} {N : Nat} {x0 : Nat} {x1 : Nat} {x2 : Int32} {z0 z : St} (hM : mX19_answer &&& M = mX19_answer)  (h : zFr M z0 z) : zPw M z0 (fX19_answer N x0 x1 x2 z) := by
  unfold fX19_answer
  exact zw_c (wX19_has (ztr rfl hM)  h) (fun r1 z2 h1 => zw_i (zw_s h1) (zw_c (wX19_has (ztr rfl hM)  h1) (fun r6 z7 h2 => zw_i (zw_c (wX19_seg (ztr rfl hM)  h2) (fun r11 z12 h3 => zw_c (wX19_sizeOf (ztr rfl hM)  h3) (fun r15 z16 h4 => zw_c (wX14_resetWith (ztr rfl hM)  h4) (fun _ z20 h5 => zw_s h5)))) (zw_c (wX19_seg (ztr rfl hM)  h2) (fun r23 z24 h6 => zw_c (wX14_resetWith (ztr rfl hM)  h6) (fun _ z28 h7 => zw_s h7))))))
def mX19_takeOpen_113 : Nat := 0x280000000000000000000000000000000200000000000000000000000000000000000000000000000000000000000000000000000060000000200000000000000000000000000000000000000000000000000000000000000000000000000000000000000000000000000000000000000000000000000000000000000000000000000000000000000000000000000000000000000000000000000000000000000000000000000000000000
theorem wX19_takeOpen_113 {M : Nat} {N : Nat} {x0 : Nat} {x1 : Nat} {x2 : Int32} {s0 : Nat} {s1 : Int32} {z0 z : St} (hM : mX19_takeOpen_113 &&& M = mX19_takeOpen_113)  (h : zFr M z0 z) : zPw M z0 (fX19_takeOpen_113 N x0 x1 x2 s0 s1 z) := by
  unfold fX19_takeOpen_113
  exact zw_lI h (ztb hM rfl) (fun z1 h1 => zw_c (wX19_dropBook (ztr rfl hM)  h1) (fun _ z3 h2 => zw_lI h2 (ztb hM rfl) (fun z6 h3 => zw_lI h3 (ztb hM rfl) (fun z7 h4 => zw_c (wX19_seg (ztr rfl hM)  h4) (fun r8 z9 h5 => zw_i (zw_s h5) (zw_k (zw_i (zw_s h5) (zw_k (zw_c (wX19_seg (ztr rfl hM)  h5) (fun r16 z17 h6 => zw_i (zw_s h6) (zw_lI h6 (ztb hM rfl) (fun z21 h7 => zw_k (zw_k (zw_lA h7 (ztb hM rfl) (fun z24 h8 => zw_s h8)))))))))))))))
def mX19_takeOpen_66 : Nat := 0x280000000000000000000000000000000200000000000000000000000000000000000000000000000000000000000000000000000060000000b80000000000000000000000000000000000000000000000000000000000000000000000000000000000000000000000000000000000000000000000000000000000000000000000000000000000000000000000000000000000000000000000000000000000000000000000000000000000
theorem wX19_takeOpen_66 {M : Nat} {N : Nat} {x0 : Nat} {x1 : Nat} {x2 : Int32} {s0 : Nat} {s1 : Int32} {z0 z : St} (hM : mX19_takeOpen_66 &&& M = mX19_takeOpen_66)  (h : zFr M z0 z) : zPw M z0 (fX19_takeOpen_66 N x0 x1 x2 s0 s1 z) := by
  unfold fX19_takeOpen_66
  exact zw_lI h (ztb hM rfl) (fun z1 h1 => zw_c (wX19_seg (ztr rfl hM)  h1) (fun r2 z3 h2 => zw_lI h2 (ztb hM rfl) (fun z6 h3 => zw_c (wX19_seg (ztr rfl hM)  h3) (fun r7 z8 h4 => zw_lI h4 (ztb hM rfl) (fun z11 h5 => zw_c (wX19_has (ztr rfl hM)  h5) (fun r12 z13 h6 => zw_i (wX19_takeOpen_113 (ztr rfl hM)  h6) (zw_c (wX19_seg (ztr rfl hM)  h6) (fun r17 z18 h7 => wX19_takeOpen_113 (ztr rfl hM)  h7))))))))
def mX19_takeOpen_48 : Nat := 0x280000000000000000000000000000000200000000000000000000000000000000000000000000000000000000000000000000000060000000b80000000000000000000000000000000000000000000000000000000000000000000000000000000000000000000000000000000000000000000000000000000000000000000000000000000000000000000000000000000000000000000000000000000000000000000000000000000000
theorem wX19_takeOpen_48 {M : Nat} {N : Nat} {x0 : Nat} {x1 : Nat} {x2 : Int32} {s0 : Int32} {z0 z : St} (hM : mX19_takeOpen_48 &&& M = mX19_takeOpen_48)  (h : zFr M z0 z) : zPw M z0 (fX19_takeOpen_48 N x0 x1 x2 s0 z) := by
  unfold fX19_takeOpen_48
  exact zw_i (wX19_takeOpen_66 (ztr rfl hM)  h) (wX19_takeOpen_66 (ztr rfl hM)  h)
def mX19_takeOpen : Nat := 0x280000000000000000000000000000000200000000000000000000000000000000000000000000000000000000000000000000000060000007b80000000000000000000000000000000000000000000000000000000000000000000000000000000000000000000000000000000000000000000000000000000000000000000000000000000000000000000000000000000000000000000000000000000000000000000000000000000000
theorem wX19_takeOpen {M : Nat} {N : Nat} {x0 : Nat} {x1 : Nat} {x2 : Int32} {z0 z : St} (hM : mX19_takeOpen &&& M = mX19_takeOpen)  (h : zFr M z0 z) : zPw M z0 (fX19_takeOpen N x0 x1 x2 z) := by
  unfold fX19_takeOpen
  exact zw_lI h (ztb hM rfl) (fun z1 h1 => zw_c (wX19_seg (ztr rfl hM)  h1) (fun r2 z3 h2 => zw_lI h2 (ztb hM rfl) (fun z6 h3 => zw_lI h3 (ztb hM rfl) (fun z7 h4 => zw_c (wX19_seg (ztr rfl hM)  h4) (fun r8 z9 h5 => zw_i (zw_c (wX19_seg (ztr rfl hM)  h5) (fun r13 z14 h6 => wX19_takeOpen_48 (ztr rfl hM)  h6)) (wX19_takeOpen_48 (ztr rfl hM)  h5))))))
def mX19_arriveAsking_32 : Nat := 0x28000000000000000000000000000000020000000000000000000000000000000000000000000000000000000000000000000000006f3fd007b84100000000000000000000000000000000000000000000000000000000000000000000000000000000000000000000000000000000000000000000000000000000000000000000000000000000000000000000000000000000000000000000000000000000000000000000000000000000
theorem wX19_arriveAsking_32 {M : Nat} {N : Nat} {x0 : Nat} {x1 : Nat} {x2 : Int32} {z0 z : St} (hM : mX19_arriveAsking_32 &&& M = mX19_arriveAsking_32)  (h : zFr M z0 z) : zPw M z0 (fX19_arriveAsking_32 N x0 x1 x2 z) := by
  unfold fX19_arriveAsking_32
  exact zw_c (wX19_has (ztr rfl hM)  h) (fun r1 z2 h1 => zw_i (zw_c (wX19_has (ztr rfl hM)  h1) (fun r6 z7 h2 => zw_i (zw_s h2) (zw_c (wX19_takeOpen (ztr rfl hM)  h2) (fun _ z12 h3 => zw_c (wX19_has (ztr rfl hM)  h3) (fun r15 z16 h4 => zw_i (zw_lI h4 (ztb hM rfl) (fun z20 h5 => zw_lI h5 (ztb hM rfl) (fun z21 h6 => zw_s h6))) (zw_lI h4 (ztb hM rfl) (fun z22 h7 => zw_c (wX19_seg (ztr rfl hM)  h7) (fun r23 z24 h8 => zw_c (wX14_thankedFor (ztr rfl hM)  h8) (fun _ z28 h9 => zw_lI h9 (ztb hM rfl) (fun z31 h10 => zw_lI h10 (ztb hM rfl) (fun z32 h11 => zw_s h11))))))))))) (zw_c (wX19_has (ztr rfl hM)  h1) (fun r33 z34 h12 => zw_i (zw_s h12) (zw_c (wX14_become (ztr rfl hM)  h12) (fun _ z39 h13 => zw_s h13)))))
def mX19_arriveAsking : Nat := 0x28000000000000000000000000000000020000000000000000000000000000000000000000000000000000000000000000000000006f3fdf07b84100000000000000000000000000000000000000000000000000000000000000000000000000000000000000000000000000000000000000000000000000000000000000000000000000000000000000000000000000000000000000000000000000000000000000000000000000000000
theorem wX19_arriveAsking {M : Nat} {N : Nat} {x0 : Nat} {x1 : Nat} {x2 : Int32} {z0 z : St} (hM : mX19_arriveAsking &&& M = mX19_arriveAsking)  (h : zFr M z0 z) : zPw M z0 (fX19_arriveAsking N x0 x1 x2 z) := by
  unfold fX19_arriveAsking
  exact zw_c (wX19_has (ztr rfl hM)  h) (fun r1 z2 h1 => zw_i (wX19_arriveAsking_32 (ztr rfl hM)  h1) (zw_c (wX19_seg (ztr rfl hM)  h1) (fun r6 z7 h2 => zw_i (wX19_arriveAsking_32 (ztr rfl hM)  h2) (zw_c (wX19_answer (ztr rfl hM)  h2) (fun _ z12 h3 => zw_s h3)))))
def mX19_arriveBytes_123 : Nat := 0x0
theorem wX19_arriveBytes_123 {M : Nat} {N : Nat} {K50 : Nat → Nat → Int32 → Int32 → Int32 → Int32 → Int32 → St → Option (Int32 × St)} {x0 : Nat} {x1 : Nat} {x2 : Int32} {x3 : Int32} {x4 : Int32} {x5 : Int32} {x6 : Int32} {z0 z : St} (hM : mX19_arriveBytes_123 &&& M = mX19_arriveBytes_123)  (hK50 : ∀ a0 a1 a2 a3 a4 a5 a6 a7, zFr M z0 a7 → zPw M z0 (K50 a0 a1 a2 a3 a4 a5 a6 a7)) (h : zFr M z0 z) : zPw M z0 (fX19_arriveBytes_123 N K50 x0 x1 x2 x3 x4 x5 x6 z) := by
  unfold fX19_arriveBytes_123
  exact zw_l (fun v1 => hK50 _ _ _ _ _ _ _ _ h)
def mX19_arriveBytes_334 : Nat := 0x10000000000000000000000000000000000000000000000000000000000000000000000000000000000000000000000000000000000000000000000000000000000000000000000000000000000000000000000000000000000000000000000000000000000000000000000000000000000000000
theorem wX19_arriveBytes_334 {M : Nat} {N : Nat} {x1 : Nat} {z0 z : St} (hM : mX19_arriveBytes_334 &&& M = mX19_arriveBytes_334)  (h : zFr M z0 z) : zPw M z0 (fX19_arriveBytes_334 N x1 z) := by
  unfold fX19_arriveBytes_334
  exact zw_lI h (ztb hM rfl) (fun z1 h1 => zw_s h1)
def mX19_arriveBytes_321 : Nat := 0x10000000000000000000000000000000000000000000000000000000000000000000000000000000000000000000000000000000000000000000000000000000000000000000000000000000000000000000000000000000000000000000000000000000000000000000000000000000000000000
theorem wX19_arriveBytes_321 {M : Nat} {N : Nat} {x0 : Nat} {x1 : Nat} {x2 : Int32} {x3 : Int32} {z0 z : St} (hM : mX19_arriveBytes_321 &&& M = mX19_arriveBytes_321)  (h : zFr M z0 z) : zPw M z0 (fX19_arriveBytes_321 N x0 x1 x2 x3 z) := by
  unfold fX19_arriveBytes_321
  exact zw_i (wX19_arriveBytes_334 (ztr rfl hM)  h) (zw_c (wX19_has (ztr rfl hM)  h) (fun r2 z3 h1 => zw_i (zw_s h1) (wX19_arriveBytes_334 (ztr rfl hM)  h1)))
def mX19_arriveBytes_314 : Nat := 0x803d000000100000000000000000000000000000000000000000000000000000000000000000000000000000000000000000000000000000000000000000000000000000000000000000000000000000000000000000000000000000000000000000000000000000000000000000000000000000000
theorem wX19_arriveBytes_314 {M : Nat} {N : Nat} {x0 : Nat} {x1 : Nat} {x2 : Int32} {x3 : Int32} {s0 : Nat} {s1 : Int32} {z0 z : St} (hM : mX19_arriveBytes_314 &&& M = mX19_arriveBytes_314)  (h : zFr M z0 z) : zPw M z0 (fX19_arriveBytes_314 N x0 x1 x2 x3 s0 s1 z) := by
  unfold fX19_arriveBytes_314
  exact zw_c (wX14_become (ztr rfl hM)  h) (fun _ z2 h1 => wX19_arriveBytes_321 (ztr rfl hM)  h1)
def mX19_arriveBytes_252 : Nat := 0x803d081000100000000000000000000000000000000000000000000000000000000000000000000000000000000000000000000000000000000000000000000000000000000000000000000000000000000000000000000000000000000000000000000000000000000000000000000000000000000
theorem wX19_arriveBytes_252 {M : Nat} {N : Nat} {x0 : Nat} {x1 : Nat} {x2 : Int32} {x3 : Int32} {z0 z : St} (hM : mX19_arriveBytes_252 &&& M = mX19_arriveBytes_252)  (h : zFr M z0 z) : zPw M z0 (fX19_arriveBytes_252 N x0 x1 x2 x3 z) := by
  unfold fX19_arriveBytes_252
  exact zw_i (wX19_arriveBytes_321 (ztr rfl hM)  h) (zw_i (wX19_arriveBytes_321 (ztr rfl hM)  h) (zw_lI h (ztb hM rfl) (fun z3 h1 => zw_lI h1 (ztb hM rfl) (fun z4 h2 => zw_i (zw_i (wX19_arriveBytes_314 (ztr rfl hM)  h2) (wX19_arriveBytes_314 (ztr rfl hM)  h2)) (wX19_arriveBytes_314 (ztr rfl hM)  h2)))))
def mX19_arriveBytes_215 : Nat := 0x20000000000000000000000000000000000000000000000000000000000000000000000000000000000000000000000000000803d081000100000000000000000000000000000000000000000000000000000000000000000000000000000000000000000000000000000000000000000000000000000000000000000000000000000000000000000000000000000000000000000000000000000000000000000000000000000000
theorem wX19_arriveBytes_215 {M : Nat} {N : Nat} {K181 : Nat → Nat → Int32 → Int32 → St → Option (Int32 × St)} {x0 : Nat} {x1 : Nat} {x2 : Int32} {x3 : Int32} {z0 z : St} (hM : mX19_arriveBytes_215 &&& M = mX19_arriveBytes_215)  (hK181 : ∀ a0 a1 a2 a3 a4, zFr M z0 a4 → zPw M z0 (K181 a0 a1 a2 a3 a4)) (h : zFr M z0 z) : zPw M z0 (fX19_arriveBytes_215 N K181 x0 x1 x2 x3 z) := by
  unfold fX19_arriveBytes_215
  exact zw_c (wX14_readable (ztr rfl hM)  h) (fun r1 z2 h1 => zw_i (wX19_arriveBytes_252 (ztr rfl hM)  h1) (zw_k (zw_lA h1 (ztb hM rfl) (fun z7 h2 => zw_lI h2 (ztb hM rfl) (fun z8 h3 => hK181 _ _ _ _ _ h3)))))
def mX19_arriveBytes_181b : Nat := 0x20000000000000000000000000000000000000000000000000000000000000000000000000000000000000000000000000000803d081000100000000000000000000000000000000000000000000000000000000000000000000000000000000000000000000000000000000000000000000000000000000000000000000000000000000000000000000000000000000000000000000000000000000000000000000000000000000
theorem wX19_arriveBytes_181b {M : Nat} {N : Nat} {K181 : Nat → Nat → Int32 → Int32 → St → Option (Int32 × St)} {x0 : Nat} {x1 : Nat} {x2 : Int32} {x3 : Int32} {z0 z : St} (hM : mX19_arriveBytes_181b &&& M = mX19_arriveBytes_181b)  (hK181 : ∀ a0 a1 a2 a3 a4, zFr M z0 a4 → zPw M z0 (K181 a0 a1 a2 a3 a4)) (h : zFr M z0 z) : zPw M z0 (fX19_arriveBytes_181b N K181 x0 x1 x2 x3 z) := by
  unfold fX19_arriveBytes_181b
  exact zw_k (zw_i (wX19_arriveBytes_252 (ztr rfl hM)  h) (zw_i (wX19_arriveBytes_215 (ztr rfl hM) hK181 h) (zw_i (wX19_arriveBytes_252 (ztr rfl hM)  h) (wX19_arriveBytes_215 (ztr rfl hM) hK181 h))))
def mX19_arriveBytes_181 : Nat := 0x20000000000000000000000000000000000000000000000000000000000000000000000000000000000000000000000000000803d081000100000000000000000000000000000000000000000000000000000000000000000000000000000000000000000000000000000000000000000000000000000000000000000000000000000000000000000000000000000000000000000000000000000000000000000000000000000000
theorem wX19_arriveBytes_181 {M : Nat} {z0 : St} {N : Nat}(hM : mX19_arriveBytes_181 &&& M = mX19_arriveBytes_181)  : ∀ (n : Nat) (y0 : Nat) (y1 : Nat) (y2 : Int32) (y3 : Int32) (z : St), zFr M z0 z → zPw M z0 (fX19_arriveBytes_181 N n y0 y1 y2 y3 z) := by
  intro n
  induction n with
  | zero => intro y0 y1 y2 y3 z h; exact zw_n
  | succ n ih => intro y0 y1 y2 y3 z h; exact wX19_arriveBytes_181b (ztr rfl hM)  (fun _ _ _ _ _ h => ih _ _ _ _ _ h) h
def mX19_arriveBytes_50b : Nat := 0x30000000000000000000000000000000000000000000000000000000000000000000000000000000000000000000000000000803d0e1000100000000000000000000000000000000000000000000000000000000000000000000000000000000000000000000000000000000000000000000000000000000000000000000000000000000000000000000000000000000000000000000000000000000000000000000000000000000
theorem wX19_arriveBytes_50b {M : Nat} {N : Nat} {K50 : Nat → Nat → Int32 → Int32 → Int32 → Int32 → Int32 → St → Option (Int32 × St)} {x0 : Nat} {x1 : Nat} {x2 : Int32} {x3 : Int32} {x4 : Int32} {x5 : Int32} {x6 : Int32} {z0 z : St} (hM : mX19_arriveBytes_50b &&& M = mX19_arriveBytes_50b)  (hK50 : ∀ a0 a1 a2 a3 a4 a5 a6 a7, zFr M z0 a7 → zPw M z0 (K50 a0 a1 a2 a3 a4 a5 a6 a7)) (h : zFr M z0 z) : zPw M z0 (fX19_arriveBytes_50b N K50 x0 x1 x2 x3 x4 x5 x6 z) := by
  unfold fX19_arriveBytes_50b
  exact zw_i (zw_l (fun v2 => zw_c (wX19_has (ztr rfl hM)  h) (fun r3 z4 h1 => zw_i (wX19_arriveBytes_181 (ztr rfl hM)  _ _ _ _ _ _ h1) (zw_i (wX19_arriveBytes_181 (ztr rfl hM)  _ _ _ _ _ _ h1) (zw_i (wX19_arriveBytes_181 (ztr rfl hM)  _ _ _ _ _ _ h1) (zw_i (wX19_arriveBytes_181 (ztr rfl hM)  _ _ _ _ _ _ h1) (zw_lI h1 (ztb hM rfl) (fun z11 h2 => zw_lI h2 (ztb hM rfl) (fun z12 h3 => wX19_arriveBytes_181 (ztr rfl hM)  _ _ _ _ _ _ h3))))))))) (zw_l (fun v13 => zw_l (fun v14 => zw_i (wX19_arriveBytes_123 (ztr rfl hM) hK50 h) (zw_i (wX19_arriveBytes_123 (ztr rfl hM) hK50 h) (zw_k (zw_i (wX19_arriveBytes_123 (ztr rfl hM) hK50 h) (zw_k (zw_lA h (ztb hM rfl) (fun z20 h4 => zw_c (wX19_byteOf (ztr rfl hM)  h4) (fun r21 z22 h5 => zw_k (zw_lA h5 (ztb hM rfl) (fun z26 h6 => wX19_arriveBytes_123 (ztr rfl hM) hK50 h6))))))))))))
def mX19_arriveBytes_50 : Nat := 0x30000000000000000000000000000000000000000000000000000000000000000000000000000000000000000000000000000803d0e1000100000000000000000000000000000000000000000000000000000000000000000000000000000000000000000000000000000000000000000000000000000000000000000000000000000000000000000000000000000000000000000000000000000000000000000000000000000000
theorem wX19_arriveBytes_50 {M : Nat} {z0 : St} {N : Nat}(hM : mX19_arriveBytes_50 &&& M = mX19_arriveBytes_50)  : ∀ (n : Nat) (y0 : Nat) (y1 : Nat) (y2 : Int32) (y3 : Int32) (y4 : Int32) (y5 : Int32) (y6 : Int32) (z : St), zFr M z0 z → zPw M z0 (fX19_arriveBytes_50 N n y0 y1 y2 y3 y4 y5 y6 z) := by
  intro n
  induction n with
  | zero => intro y0 y1 y2 y3 y4 y5 y6 z h; exact zw_n
  | succ n ih => intro y0 y1 y2 y3 y4 y5 y6 z h; exact wX19_arriveBytes_50b (ztr rfl hM)  (fun _ _ _ _ _ _ _ _ h => ih _ _ _ _ _ _ _ _ h) h
def mX19_arriveBytes_33 : Nat := 0x30000000000000000000000000000000000000000000000000000000000000000000000000000000000000000000000000000803d0e1000100000000000000000000000000000000000000000000000000000000000000000000000000000000000000000000000000000000000000000000000000000000000000000000000000000000000000000000000000000000000000000000000000000000000000000000000000000000
theorem wX19_arriveBytes_33 {M : Nat} {N : Nat} {x0 : Nat} {x1 : Nat} {x2 : Int32} {x3 : Int32} {z0 z : St} (hM : mX19_arriveBytes_33 &&& M = mX19_arriveBytes_33)  (h : zFr M z0 z) : zPw M z0 (fX19_arriveBytes_33 N x0 x1 x2 x3 z) := by
  unfold fX19_arriveBytes_33
  exact zw_c (wX14_room (ztr rfl hM)  h) (fun r1 z2 h1 => zw_c (wX19_seg (ztr rfl hM)  h1) (fun r5 z6 h2 => wX19_arriveBytes_50 (ztr rfl hM)  _ _ _ _ _ _ _ _ _ h2))
def mX19_arriveBytes : Nat := 0x30000000000000000000000000000000000000000000000000000000000000000000000000000000000000000000000000000803d0e1000100000000000000000000000000000000000000000000000000000000000000000000000000000000000000000000000000000000000000000000000000000000000000000000000000000000000000000000000000000000000000000000000000000000000000000000000000000000
theorem wX19_arriveBytes {M : Nat} {N : Nat} {x0 : Nat} {x1 : Nat} {x2 : Int32} {z0 z : St} (hM : mX19_arriveBytes &&& M = mX19_arriveBytes)  (h : zFr M z0 z) : zPw M z0 (fX19_arriveBytes N x0 x1 x2 z) := by
  unfold fX19_arriveBytes
  exact zw_c (wX19_seg (ztr rfl hM)  h) (fun r1 z2 h1 => zw_i (wX19_arriveBytes_33 (ztr rfl hM)  h1) (zw_i (wX19_arriveBytes_33 (ztr rfl hM)  h1) (zw_i (wX19_arriveBytes_321 (ztr rfl hM)  h1) (wX19_arriveBytes_33 (ztr rfl hM)  h1))))
def mX19_arriveListening : Nat := 0x280000000000000000000000000000000200000000000000000000000000000000000000000000000000000000000000000000000060001f07b88100000000000000000000000000000000000000000000000000000000000000000000000000000000000000000000000000000000000000000000000000000000000000000000000000000000000000000000000000000000000000000000000000000000000000000000000000000000
theorem wX19_arriveListening {M : Nat} {N : Nat} {x0 : Nat} {x1 : Nat} {x2 : Int32} {z0 z : St} (hM : mX19_arriveListening &&& M = mX19_arriveListening)  (h : zFr M z0 z) : zPw M z0 (fX19_arriveListening N x0 x1 x2 z) := by
  unfold fX19_arriveListening
  exact zw_c (wX19_has (ztr rfl hM)  h) (fun r1 z2 h1 => zw_i (zw_c (wX19_has (ztr rfl hM)  h1) (fun r6 z7 h2 => zw_i (zw_c (wX19_has (ztr rfl hM)  h2) (fun r11 z12 h3 => zw_i (zw_s h3) (zw_c (wX19_takeOpen (ztr rfl hM)  h3) (fun _ z17 h4 => zw_lI h4 (ztb hM rfl) (fun z20 h5 => zw_lI h5 (ztb hM rfl) (fun z21 h6 => zw_lI h6 (ztb hM rfl) (fun z22 h7 => zw_s h7))))))) (zw_c (wX19_answer (ztr rfl hM)  h2) (fun _ z24 h8 => zw_s h8)))) (zw_s h1))
def mX19_arriveThanks_195 : Nat := 0x803d000000100000000000000000000000000000000000000000000000000000000000000000000000000000000000000000000000000000000000000000000000000000000000000000000000000000000000000000000000000000000000000000000000000000000000000000000000000000000
theorem wX19_arriveThanks_195 {M : Nat} {N : Nat} {x0 : Nat} {x1 : Nat} {z0 z : St} (hM : mX19_arriveThanks_195 &&& M = mX19_arriveThanks_195)  (h : zFr M z0 z) : zPw M z0 (fX19_arriveThanks_195 N x0 x1 z) := by
  unfold fX19_arriveThanks_195
  exact zw_i (zw_s h) (zw_c (wX19_isBefore (ztr rfl hM)  h) (fun r2 z3 h1 => zw_i (zw_s h1) (zw_i (zw_i (zw_i (zw_s h1) (zw_c (wX14_become (ztr rfl hM)  h1) (fun _ z11 h2 => zw_s h2))) (zw_c (wX14_become (ztr rfl hM)  h1) (fun _ z15 h3 => zw_s h3))) (zw_c (wX14_become (ztr rfl hM)  h1) (fun _ z19 h4 => zw_s h4)))))
def mX19_arriveThanks_177 : Nat := 0x803d000000100000000000000000000000000000000000000000000000000000000000000000000000000000000000000000000000000000000000000000000000000000000000000000000000000000000000000000000000000000000000000000000000000000000000000000000000000000000
theorem wX19_arriveThanks_177 {M : Nat} {N : Nat} {x0 : Nat} {x1 : Nat} {s0 : Nat} {s1 : Int32} {z0 z : St} (hM : mX19_arriveThanks_177 &&& M = mX19_arriveThanks_177)  (h : zFr M z0 z) : zPw M z0 (fX19_arriveThanks_177 N x0 x1 s0 s1 z) := by
  unfold fX19_arriveThanks_177
  exact zw_q (zw_lI h (ztb hM rfl) (fun z1 h1 => wX19_arriveThanks_195 (ztr rfl hM)  h1))
def mX19_arriveThanks_176 : Nat := 0x803d000000100000000000000000000000000000000000000000000000000000000000000000000000000000000000000000000000000000000000000000000000000000000000000000000000000000000000000000000000000000000000000000000000000000000000000000000000000000000
theorem wX19_arriveThanks_176 {M : Nat} {N : Nat} {x0 : Nat} {x1 : Nat} {s0 : Nat} {z0 z : St} (hM : mX19_arriveThanks_176 &&& M = mX19_arriveThanks_176)  (h : zFr M z0 z) : zPw M z0 (fX19_arriveThanks_176 N x0 x1 s0 z) := by
  unfold fX19_arriveThanks_176
  exact wX19_arriveThanks_177 (ztr rfl hM)  h
def mX19_arriveThanks_111 : Nat := 0x813d000380100000000000000000000000000000000000000000000000000000000000000000000000000000000000000000000000000000000000000000000000000000000000000000000000000000000000000000000000000000000000000000000000000000000000000000000000000000000
theorem wX19_arriveThanks_111 {M : Nat} {N : Nat} {x0 : Nat} {x1 : Nat} {x2 : Int32} {x3 : Int32} {s0 : Int32} {z0 z : St} (hM : mX19_arriveThanks_111 &&& M = mX19_arriveThanks_111)  (h : zFr M z0 z) : zPw M z0 (fX19_arriveThanks_111 N x0 x1 x2 x3 s0 z) := by
  unfold fX19_arriveThanks_111
  exact zw_c (wX19_seg (ztr rfl hM)  h) (fun r1 z2 h1 => zw_lI h1 (ztb hM rfl) (fun z5 h2 => zw_c (wX19_seg (ztr rfl hM)  h2) (fun r6 z7 h3 => zw_lI h3 (ztb hM rfl) (fun z10 h4 => zw_lI h4 (ztb hM rfl) (fun z11 h5 => zw_i (zw_i (wX19_arriveThanks_195 (ztr rfl hM)  h5) (zw_lI h5 (ztb hM rfl) (fun z14 h6 => wX19_arriveThanks_195 (ztr rfl hM)  h6))) (zw_lI h5 (ztb hM rfl) (fun z15 h7 => zw_lI h7 (ztb hM rfl) (fun z16 h8 => zw_i (wX19_arriveThanks_176 (ztr rfl hM)  h8) (zw_i (wX19_arriveThanks_176 (ztr rfl hM)  h8) (wX19_arriveThanks_177 (ztr rfl hM)  h8))))))))))
def mX19_arriveThanks_110 : Nat := 0x813d000380100000000000000000000000000000000000000000000000000000000000000000000000000000000000000000000000000000000000000000000000000000000000000000000000000000000000000000000000000000000000000000000000000000000000000000000000000000000
theorem wX19_arriveThanks_110 {M : Nat} {N : Nat} {x0 : Nat} {x1 : Nat} {x2 : Int32} {x3 : Int32} {z0 z : St} (hM : mX19_arriveThanks_110 &&& M = mX19_arriveThanks_110)  (h : zFr M z0 z) : zPw M z0 (fX19_arriveThanks_110 N x0 x1 x2 x3 z) := by
  unfold fX19_arriveThanks_110
  exact wX19_arriveThanks_111 (ztr rfl hM)  h
def mX19_arriveThanks_72 : Nat := 0x813d000380100000000000000000000000000000000000000000000000000000000000000000000000000000000000000000000000000000000000000000000000000000000000000000000000000000000000000000000000000000000000000000000000000000000000000000000000000000000
theorem wX19_arriveThanks_72 {M : Nat} {N : Nat} {x0 : Nat} {x1 : Nat} {x2 : Int32} {x3 : Int32} {s0 : Int32} {z0 z : St} (hM : mX19_arriveThanks_72 &&& M = mX19_arriveThanks_72)  (h : zFr M z0 z) : zPw M z0 (fX19_arriveThanks_72 N x0 x1 x2 x3 s0 z) := by
  unfold fX19_arriveThanks_72
  exact zw_c (wX19_isBefore (ztr rfl hM)  h) (fun r1 z2 h1 => zw_i (wX19_arriveThanks_195 (ztr rfl hM)  h1) (zw_i (wX19_arriveThanks_195 (ztr rfl hM)  h1) (zw_i (wX19_arriveThanks_110 (ztr rfl hM)  h1) (zw_c (wX19_seg (ztr rfl hM)  h1) (fun r8 z9 h2 => zw_i (wX19_arriveThanks_110 (ztr rfl hM)  h2) (wX19_arriveThanks_111 (ztr rfl hM)  h2))))))
def mX19_arriveThanks_67 : Nat := 0x813d000380100000000000000000000000000000000000000000000000000000000000000000000000000000000000000000000000000000000000000000000000000000000000000000000000000000000000000000000000000000000000000000000000000000000000000000000000000000000
theorem wX19_arriveThanks_67 {M : Nat} {N : Nat} {x0 : Nat} {x1 : Nat} {x2 : Int32} {x3 : Int32} {z0 z : St} (hM : mX19_arriveThanks_67 &&& M = mX19_arriveThanks_67)  (h : zFr M z0 z) : zPw M z0 (fX19_arriveThanks_67 N x0 x1 x2 x3 z) := by
  unfold fX19_arriveThanks_67
  exact wX19_arriveThanks_72 (ztr rfl hM)  h
def mX19_arriveThanks_71 : Nat := 0x813d000380100000000000000000000000000000000000000000000000000000000000000000000000000000000000000000000000000000000000000000000000000000000000000000000000000000000000000000000000000000000000000000000000000000000000000000000000000000000
theorem wX19_arriveThanks_71 {M : Nat} {N : Nat} {x0 : Nat} {x1 : Nat} {x2 : Int32} {x3 : Int32} {z0 z : St} (hM : mX19_arriveThanks_71 &&& M = mX19_arriveThanks_71)  (h : zFr M z0 z) : zPw M z0 (fX19_arriveThanks_71 N x0 x1 x2 x3 z) := by
  unfold fX19_arriveThanks_71
  exact wX19_arriveThanks_72 (ztr rfl hM)  h
def mX19_arriveThanks_27 : Nat := 0x813d000380100000000000000000000000000000000000000000000000000000000000000000000000000000000000000000000000000000000000000000000000000000000000000000000000000000000000000000000000000000000000000000000000000000000000000000000000000000000
theorem wX19_arriveThanks_27 {M : Nat} {N : Nat} {x0 : Nat} {x1 : Nat} {x2 : Int32} {x3 : Int32} {z0 z : St} (hM : mX19_arriveThanks_27 &&& M = mX19_arriveThanks_27)  (h : zFr M z0 z) : zPw M z0 (fX19_arriveThanks_27 N x0 x1 x2 x3 z) := by
  unfold fX19_arriveThanks_27
  exact zw_c (wX19_seg (ztr rfl hM)  h) (fun r1 z2 h1 => zw_c (wX19_isBefore (ztr rfl hM)  h1) (fun r5 z6 h2 => zw_i (wX19_arriveThanks_67 (ztr rfl hM)  h2) (zw_c (wX19_seg (ztr rfl hM)  h2) (fun r10 z11 h3 => zw_i (wX19_arriveThanks_71 (ztr rfl hM)  h3) (zw_c (wX19_isBefore (ztr rfl hM)  h3) (fun r15 z16 h4 => zw_i (wX19_arriveThanks_71 (ztr rfl hM)  h4) (wX19_arriveThanks_67 (ztr rfl hM)  h4)))))))
def mX19_arriveThanks : Nat := 0xf3fd000384100000000000000000000000000000000000000000000000000000000000000000000000000000000000000000000000000000000000000000000000000000000000000000000000000000000000000000000000000000000000000000000000000000000000000000000000000000000
theorem wX19_arriveThanks {M : Nat} {N : Nat} {x0 : Nat} {x1 : Nat} {x2 : Int32} {z0 z : St} (hM : mX19_arriveThanks &&& M = mX19_arriveThanks)  (h : zFr M z0 z) : zPw M z0 (fX19_arriveThanks N x0 x1 x2 z) := by
  unfold fX19_arriveThanks
  exact zw_c (wX19_seg (ztr rfl hM)  h) (fun r1 z2 h1 => zw_c (wX19_isBefore (ztr rfl hM)  h1) (fun r5 z6 h2 => zw_i (wX19_arriveThanks_27 (ztr rfl hM)  h2) (zw_c (wX14_thankedFor (ztr rfl hM)  h2) (fun _ z11 h3 => wX19_arriveThanks_27 (ztr rfl hM)  h3))))
def mX19_arrives_72 : Nat := 0x8010000000000000000000000000000000000000000000000000000000000000000000000000000000000000000000000000000000000000000000000000000000000000000000000000000000000000000000000000000000000000000000000000000000000000000000000000000000000000000
theorem wX19_arrives_72 {M : Nat} {N : Nat} {x0 : Nat} {x1 : Nat} {x2 : Int32} {s0 : Nat} {s1 : Int32} {z0 z : St} (hM : mX19_arrives_72 &&& M = mX19_arrives_72)  (h : zFr M z0 z) : zPw M z0 (fX19_arrives_72 N x0 x1 x2 s0 s1 z) := by
  unfold fX19_arrives_72
  exact zw_q (zw_lI h (ztb hM rfl) (fun z1 h1 => zw_i (zw_s h1) (zw_c (wX19_has (ztr rfl hM)  h1) (fun r4 z5 h2 => zw_i (zw_s h2) (zw_lI h2 (ztb hM rfl) (fun z9 h3 => zw_s h3))))))
def mX19_arrives_67 : Nat := 0x8010000000000000000000000000000000000000000000000000000000000000000000000000000000000000000000000000000000000000000000000000000000000000000000000000000000000000000000000000000000000000000000000000000000000000000000000000000000000000000
theorem wX19_arrives_67 {M : Nat} {N : Nat} {x0 : Nat} {x1 : Nat} {x2 : Int32} {s0 : Nat} {z0 z : St} (hM : mX19_arrives_67 &&& M = mX19_arrives_67)  (h : zFr M z0 z) : zPw M z0 (fX19_arrives_67 N x0 x1 x2 s0 z) := by
  unfold fX19_arrives_67
  exact wX19_arrives_72 (ztr rfl hM)  h
def mX19_arrives_187 : Nat := 0x803d000000100000000000000000000000000000000000000000000000000000000000000000000000000000000000000000000000000000000000000000000000000000000000000000000000000000000000000000000000000000000000000000000000000000000000000000000000000000000
theorem wX19_arrives_187 {M : Nat} {N : Nat} {x0 : Nat} {s0 : Nat} {s1 : Int32} {z0 z : St} (hM : mX19_arrives_187 &&& M = mX19_arrives_187)  (h : zFr M z0 z) : zPw M z0 (fX19_arrives_187 N x0 s0 s1 z) := by
  unfold fX19_arrives_187
  exact zw_c (wX14_become (ztr rfl hM)  h) (fun _ z2 h1 => zw_s h1)
def mX19_arrives_181 : Nat := 0x803d000000100000000000000000000000000000000000000000000000000000000000000000000000000000000000000000000000000000000000000000000000000000000000000000000000000000000000000000000000000000000000000000000000000000000000000000000000000000000
theorem wX19_arrives_181 {M : Nat} {N : Nat} {x0 : Nat} {s0 : Nat} {z0 z : St} (hM : mX19_arrives_181 &&& M = mX19_arrives_181)  (h : zFr M z0 z) : zPw M z0 (fX19_arrives_181 N x0 s0 z) := by
  unfold fX19_arrives_181
  exact wX19_arrives_187 (ztr rfl hM)  h
def mX19_arrives_153 : Nat := 0x803d000000100000000000000000000000000000000000000000000000000000000000000000000000000000000000000000000000000000000000000000000000000000000000000000000000000000000000000000000000000000000000000000000000000000000000000000000000000000000
theorem wX19_arrives_153 {M : Nat} {N : Nat} {x0 : Nat} {x1 : Nat} {z0 z : St} (hM : mX19_arrives_153 &&& M = mX19_arrives_153)  (h : zFr M z0 z) : zPw M z0 (fX19_arrives_153 N x0 x1 z) := by
  unfold fX19_arrives_153
  exact zw_i (wX19_arrives_181 (ztr rfl hM)  h) (zw_i (wX19_arrives_181 (ztr rfl hM)  h) (zw_i (wX19_arrives_187 (ztr rfl hM)  h) (wX19_arrives_181 (ztr rfl hM)  h)))
def mX19_arrives_300 : Nat := 0x30000000000000000000000000000000000000000000000000000000000000000000000000000000000000000000000000000f3fd0e1384100000000000000000000000000000000000000000000000000000000000000000000000000000000000000000000000000000000000000000000000000000000000000000000000000000000000000000000000000000000000000000000000000000000000000000000000000000000
theorem wX19_arrives_300 {M : Nat} {N : Nat} {x0 : Nat} {x1 : Nat} {x2 : Int32} {z0 z : St} (hM : mX19_arrives_300 &&& M = mX19_arrives_300)  (h : zFr M z0 z) : zPw M z0 (fX19_arrives_300 N x0 x1 x2 z) := by
  unfold fX19_arrives_300
  exact zw_c (wX19_arriveThanks (ztr rfl hM)  h) (fun _ z2 h1 => zw_i (zw_s h1) (zw_c (wX19_arriveBytes (ztr rfl hM)  h1) (fun _ z7 h2 => zw_s h2)))
def mX19_arrives_266 : Nat := 0x30000000000000000000000000000000000000000000000000000000000000000000000000000000000000000000000000000f3fd0e1384100000000000000000000000000000000000000000000000000000000000000000000000000000000000000000000000000000000000000000000000000000000000000000000000000000000000000000000000000000000000000000000000000000000000000000000000000000000
theorem wX19_arrives_266 {M : Nat} {N : Nat} {x0 : Nat} {x1 : Nat} {x2 : Int32} {s0 : Nat} {s1 : Int32} {z0 z : St} (hM : mX19_arrives_266 &&& M = mX19_arrives_266)  (h : zFr M z0 z) : zPw M z0 (fX19_arrives_266 N x0 x1 x2 s0 s1 z) := by
  unfold fX19_arrives_266
  exact zw_lI h (ztb hM rfl) (fun z1 h1 => zw_lI h1 (ztb hM rfl) (fun z2 h2 => wX19_arrives_300 (ztr rfl hM)  h2))
def mX19_arrives : Nat := 0x28000030000000000000000000000000020000000000000000000000000000000000000000000000000000000000000000000000006f3fdfe7b8c100000000000000000000000000000000000000000000000000000000000000000000000000000000000000000000000000000000000000000000000000000000000000000000000000000000000000000000000000000000000000000000000000000000000000000000000000000000
theorem wX19_arrives {M : Nat} {N : Nat} {x0 : Nat} {x1 : Nat} {x2 : Int32} {z0 z : St} (hM : mX19_arrives &&& M = mX19_arrives)  (h : zFr M z0 z) : zPw M z0 (fX19_arrives N x0 x1 x2 z) := by
  unfold fX19_arrives
  exact zw_i (zw_i (zw_c (wX19_seg (ztr rfl hM)  h) (fun r3 z4 h1 => zw_c (wX19_sizeOf (ztr rfl hM)  h1) (fun r7 z8 h2 => zw_c (wX14_fits (ztr rfl hM)  h2) (fun r11 z12 h3 => zw_i (zw_c (wX19_has (ztr rfl hM)  h3) (fun r16 z17 h4 => zw_i (zw_c (wX19_has (ztr rfl hM)  h4) (fun r21 z22 h5 => zw_i (zw_c (wX19_has (ztr rfl hM)  h5) (fun r26 z27 h6 => zw_i (zw_i (zw_c (wX19_seg (ztr rfl hM)  h6) (fun r32 z33 h7 => zw_c (wX19_isBefore (ztr rfl hM)  h7) (fun r36 z37 h8 => zw_i (wX19_arrives_300 (ztr rfl hM)  h8) (zw_lI h8 (ztb hM rfl) (fun z41 h9 => zw_s h9))))) (zw_c (wX19_seg (ztr rfl hM)  h6) (fun r42 z43 h10 => zw_i (zw_i (wX19_arrives_266 (ztr rfl hM)  h10) (wX19_arrives_266 (ztr rfl hM)  h10)) (zw_c (wX19_answer (ztr rfl hM)  h10) (fun _ z49 h11 => zw_s h11))))) (zw_s h6))) (zw_lI h5 (ztb hM rfl) (fun z52 h12 => zw_s h12)))) (zw_c (wX19_seg (ztr rfl hM)  h4) (fun r53 z54 h13 => zw_i (zw_i (wX19_arrives_153 (ztr rfl hM)  h13) (zw_i (wX19_arrives_153 (ztr rfl hM)  h13) (zw_s h13))) (zw_lI h13 (ztb hM rfl) (fun z60 h14 => zw_s h14)))))) (zw_i (wX19_arrives_67 (ztr rfl hM)  h3) (zw_c (wX19_has (ztr rfl hM)  h3) (fun r62 z63 h15 => zw_i (wX19_arrives_72 (ztr rfl hM)  h15) (wX19_arrives_67 (ztr rfl hM)  h15)))))))) (zw_c (wX19_arriveAsking (ztr rfl hM)  h) (fun _ z68 h16 => zw_s h16))) (zw_c (wX19_arriveListening (ztr rfl hM)  h) (fun _ z72 h17 => zw_s h17))
def mX19_newBooks : Nat := 0x3c0000000000000000000000000000000200000000000000000000000000000000000000000000000000000000000000000000000030000000000000000000000000000000000000000000000000000000000000000000000000000000000000000000000000000000000000000000000000000000000000000000000000000000000000000000000000000000000000000000000000000000000000000000000000000000000000000000
theorem wX19_newBooks {M : Nat} {N : Nat} {x0 : Nat} {x1 : Nat} {z0 z : St} (hM : mX19_newBooks &&& M = mX19_newBooks)  (h : zFr M z0 z) : zPw M z0 (fX19_newBooks N x0 x1 z) := by
  unfold fX19_newBooks
  exact zw_c (wX19_dropBook (ztr rfl hM)  h) (fun _ z2 h1 => zw_c (wX19_dropBook (ztr rfl hM)  h1) (fun _ z6 h2 => zw_c (wX19_newBook (ztr rfl hM)  h2) (fun r9 z10 h3 => zw_lI h3 (ztb hM rfl) (fun z13 h4 => zw_lI h4 (ztb hM rfl) (fun z14 h5 => zw_s h5)))))
def mX19_giveEnd : Nat := 0x3c00002000000000000000000000000002000000000000000000000000000000000000000000000000000000000000000000000000773bf1e7fbff00000000000003e80000000000000000000000000000000000000000000000000000000000000000000000000000000000000000000000000000000000000000000000000000000000000000000000000000000000000000000000000000000000000000000000000000000000000000
theorem wX19_giveEnd {M : Nat} {N : Nat} {x0 : Nat} {x1 : Nat} {x2 : Nat} {x3 : Int32} {x4 : Int32} {x5 : Int32} {z0 z : St} (hM : mX19_giveEnd &&& M = mX19_giveEnd)  (h : zFr M z0 z) : zPw M z0 (fX19_giveEnd N x0 x1 x2 x3 x4 x5 z) := by
  unfold fX19_giveEnd
  exact zw_l (fun y1 => zw_k (zw_l (fun y3 => zw_d (fun a4 => zw_l (fun y5 => zw_d (fun a6 => zw_d (fun a7 => zw_c (wX14_begin (ztr rfl hM)  h) (fun _ z9 h1 => zw_lI h1 (ztb hM rfl) (fun z12 h2 => zw_c (wX19_newBooks (ztr rfl hM)  h2) (fun _ z14 h3 => zw_lI h3 (ztb hM rfl) (fun z17 h4 => zw_lI h4 (ztb hM rfl) (fun z18 h5 => zw_lI h5 (ztb hM rfl) (fun z19 h6 => zw_lI h6 (ztb hM rfl) (fun z20 h7 => zw_lI h7 (ztb hM rfl) (fun z21 h8 => zw_lI h8 (ztb hM rfl) (fun z22 h9 => zw_lI h9 (ztb hM rfl) (fun z23 h10 => zw_lI h10 (ztb hM rfl) (fun z24 h11 => zw_lI h11 (ztb hM rfl) (fun z25 h12 => zw_s h12)))))))))))))))))))
def mX19_leastFree_34 : Nat := 0x0
theorem wX19_leastFree_34 {M : Nat} {N : Nat} {K2 : Nat → Int32 → St → Option (Int32 × St)} {x0 : Nat} {x1 : Int32} {z0 z : St} (hM : mX19_leastFree_34 &&& M = mX19_leastFree_34)  (hK2 : ∀ a0 a1 a2, zFr M z0 a2 → zPw M z0 (K2 a0 a1 a2)) (h : zFr M z0 z) : zPw M z0 (fX19_leastFree_34 N K2 x0 x1 z) := by
  unfold fX19_leastFree_34
  exact zw_l (fun v1 => hK2 _ _ _ h)
def mX19_leastFree_2b : Nat := 0x0
theorem wX19_leastFree_2b {M : Nat} {N : Nat} {K2 : Nat → Int32 → St → Option (Int32 × St)} {x0 : Nat} {x1 : Int32} {z0 z : St} (hM : mX19_leastFree_2b &&& M = mX19_leastFree_2b)  (hK2 : ∀ a0 a1 a2, zFr M z0 a2 → zPw M z0 (K2 a0 a1 a2)) (h : zFr M z0 z) : zPw M z0 (fX19_leastFree_2b N K2 x0 x1 z) := by
  unfold fX19_leastFree_2b
  exact zw_i (zw_s h) (zw_k (zw_l (fun y3 => zw_d (fun a4 => zw_i (wX19_leastFree_34 (ztr rfl hM) hK2 h) (zw_k (zw_l (fun y7 => zw_d (fun a8 => zw_i (wX19_leastFree_34 (ztr rfl hM) hK2 h) (zw_s h)))))))))
def mX19_leastFree_2 : Nat := 0x0
theorem wX19_leastFree_2 {M : Nat} {z0 : St} {N : Nat}(hM : mX19_leastFree_2 &&& M = mX19_leastFree_2)  : ∀ (n : Nat) (y0 : Nat) (y1 : Int32) (z : St), zFr M z0 z → zPw M z0 (fX19_leastFree_2 N n y0 y1 z) := by
  intro n
  induction n with
  | zero => intro y0 y1 z h; exact zw_n
  | succ n ih => intro y0 y1 z h; exact wX19_leastFree_2b (ztr rfl hM)  (fun _ _ _ h => ih _ _ _ h) h
def mX19_leastFree : Nat := 0x0
theorem wX19_leastFree {M : Nat} {N : Nat} {x0 : Nat} {z0 z : St} (hM : mX19_leastFree &&& M = mX19_leastFree)  (h : zFr M z0 z) : zPw M z0 (fX19_leastFree N x0 z) := by
  unfold fX19_leastFree
  exact wX19_leastFree_2 (ztr rfl hM)  _ _ _ _ h
def mX19_knock_58 : Nat := 0x0
theorem wX19_knock_58 {M : Nat} {N : Nat} {K6 : Nat → Nat → Int32 → Int32 → Int32 → Int32 → Int32 → Int32 → Int32 → St → Option (Int32 × St)} {x0 : Nat} {x1 : Nat} {x2 : Int32} {x3 : Int32} {x4 : Int32} {x5 : Int32} {x6 : Int32} {x8 : Int32} {s0 : Int32} {s1 : Int32} {z0 z : St} (hM : mX19_knock_58 &&& M = mX19_knock_58)  (hK6 : ∀ a0 a1 a2 a3 a4 a5 a6 a7 a8 a9, zFr M z0 a9 → zPw M z0 (K6 a0 a1 a2 a3 a4 a5 a6 a7 a8 a9)) (h : zFr M z0 z) : zPw M z0 (fX19_knock_58 N K6 x0 x1 x2 x3 x4 x5 x6 x8 s0 s1 z) := by
  unfold fX19_knock_58
  exact zw_l (fun v1 => zw_l (fun v2 => hK6 _ _ _ _ _ _ _ _ _ _ h))
def mX19_knock_57 : Nat := 0x0
theorem wX19_knock_57 {M : Nat} {N : Nat} {K6 : Nat → Nat → Int32 → Int32 → Int32 → Int32 → Int32 → Int32 → Int32 → St → Option (Int32 × St)} {x0 : Nat} {x1 : Nat} {x2 : Int32} {x3 : Int32} {x4 : Int32} {x5 : Int32} {x6 : Int32} {x8 : Int32} {s0 : Int32} {z0 z : St} (hM : mX19_knock_57 &&& M = mX19_knock_57)  (hK6 : ∀ a0 a1 a2 a3 a4 a5 a6 a7 a8 a9, zFr M z0 a9 → zPw M z0 (K6 a0 a1 a2 a3 a4 a5 a6 a7 a8 a9)) (h : zFr M z0 z) : zPw M z0 (fX19_knock_57 N K6 x0 x1 x2 x3 x4 x5 x6 x8 s0 z) := by
  unfold fX19_knock_57
  exact wX19_knock_58 (ztr rfl hM) hK6 h
def mX19_knock_6b : Nat := 0x3c000030000000000000000000000000020000000000000000000000000000000000000000000000000000000000000000000000007f3fffe7fbff00000000000003e80000000000000000000000000000000000000000000000000000000000000000000000000000000000000000000000000000000000000000000000000000000000000000000000000000000000000000000000000000000000000000000000000000000000000000
theorem wX19_knock_6b {M : Nat} {N : Nat} {K6 : Nat → Nat → Int32 → Int32 → Int32 → Int32 → Int32 → Int32 → Int32 → St → Option (Int32 × St)} {x0 : Nat} {x1 : Nat} {x2 : Int32} {x3 : Int32} {x4 : Int32} {x5 : Int32} {x6 : Int32} {x7 : Int32} {x8 : Int32} {z0 z : St} (hM : mX19_knock_6b &&& M = mX19_knock_6b)  (hK6 : ∀ a0 a1 a2 a3 a4 a5 a6 a7 a8 a9, zFr M z0 a9 → zPw M z0 (K6 a0 a1 a2 a3 a4 a5 a6 a7 a8 a9)) (h : zFr M z0 z) : zPw M z0 (fX19_knock_6b N K6 x0 x1 x2 x3 x4 x5 x6 x7 x8 z) := by
  unfold fX19_knock_6b
  exact zw_i (zw_c (wX19_leastFree (ztr rfl hM)  h) (fun r2 z3 h1 => zw_k (zw_l (fun y7 => zw_d (fun a8 => zw_i (zw_s h1) (zw_i (zw_k (zw_l (fun y12 => zw_d (fun a13 => zw_c (wX19_giveEnd (ztr rfl hM)  h1) (fun _ z15 h2 => zw_lI h2 (ztb hM rfl) (fun z18 h3 => zw_lI h3 (ztb hM rfl) (fun z19 h4 => zw_l (fun y20 => zw_d (fun a21 => zw_lI h4 (ztb hM rfl) (fun z22 h5 => zw_l (fun y23 => zw_d (fun a24 => zw_lI h5 (ztb hM rfl) (fun z25 h6 => zw_l (fun y26 => zw_d (fun a27 => zw_c (wX19_arrives (ztr rfl hM)  h6) (fun r28 z29 h7 => zw_s h7)))))))))))))))) (zw_s h1))))))) (zw_k (zw_l (fun y33 => zw_d (fun a34 => zw_i (wX19_knock_57 (ztr rfl hM) hK6 h) (zw_i (wX19_knock_57 (ztr rfl hM) hK6 h) (zw_l (fun y37 => zw_d (fun a38 => zw_i (wX19_knock_57 (ztr rfl hM) hK6 h) (wX19_knock_58 (ztr rfl hM) hK6 h)))))))))
def mX19_knock_6 : Nat := 0x3c000030000000000000000000000000020000000000000000000000000000000000000000000000000000000000000000000000007f3fffe7fbff00000000000003e80000000000000000000000000000000000000000000000000000000000000000000000000000000000000000000000000000000000000000000000000000000000000000000000000000000000000000000000000000000000000000000000000000000000000000
theorem wX19_knock_6 {M : Nat} {z0 : St} {N : Nat}(hM : mX19_knock_6 &&& M = mX19_knock_6)  : ∀ (n : Nat) (y0 : Nat) (y1 : Nat) (y2 : Int32) (y3 : Int32) (y4 : Int32) (y5 : Int32) (y6 : Int32) (y7 : Int32) (y8 : Int32) (z : St), zFr M z0 z → zPw M z0 (fX19_knock_6 N n y0 y1 y2 y3 y4 y5 y6 y7 y8 z) := by
  intro n
  induction n with
  | zero => intro y0 y1 y2 y3 y4 y5 y6 y7 y8 z h; exact zw_n
  | succ n ih => intro y0 y1 y2 y3 y4 y5 y6 y7 y8 z h; exact wX19_knock_6b (ztr rfl hM)  (fun _ _ _ _ _ _ _ _ _ _ h => ih _ _ _ _ _ _ _ _ _ _ h) h
def mX19_knock : Nat := 0x3c000030000000000000000000000000020000000000000000000000000000000000000000000000000000000000000000000000007f3fffe7fbff00000000000003e80000000000000000000000000000000000000000000000000000000000000000000000000000000000000000000000000000000000000000000000000000000000000000000000000000000000000000000000000000000000000000000000000000000000000000
theorem wX19_knock {M : Nat} {N : Nat} {x0 : Nat} {x1 : Nat} {x2 : Int32} {x3 : Int32} {x4 : Int32} {x5 : Int32} {x6 : Int32} {z0 z : St} (hM : mX19_knock &&& M = mX19_knock)  (h : zFr M z0 z) : zPw M z0 (fX19_knock N x0 x1 x2 x3 x4 x5 x6 z) := by
  unfold fX19_knock
  exact wX19_knock_6 (ztr rfl hM)  _ _ _ _ _ _ _ _ _ _ _ h
def mX19_say : Nat := 0x129b7f200000000000000000000000008820884000000000000120000000000000000000000000000000180000000000000000000000803d0000001000000000000000000000000000002d0000000000000000000000000000000000000000000000000000000000000000000000000000000000000000000000000000000000000000000000000000000000000000000000000000000000000000000000000000000000000000000000000
theorem wX19_say {M : Nat} {N : Nat} {x0 : Nat} {x1 : Nat} {x2 : Int32} {x3 : Int32} {x4 : Int32} {x5 : Int32} {z0 z : St} (hM : mX19_say &&& M = mX19_say)  (h : zFr M z0 z) : zPw M z0 (fX19_say N x0 x1 x2 x3 x4 x5 z) := by
  unfold fX19_say
  exact zw_c (wX19_setSeg (ztr rfl hM)  h) (fun _ z2 h1 => zw_c (wX19_setSeg (ztr rfl hM)  h1) (fun _ z6 h2 => zw_c (wX19_seg (ztr rfl hM)  h2) (fun r9 z10 h3 => zw_k (zw_l (fun y14 => zw_d (fun a15 => zw_c (wX18_address (ztr rfl hM)  h3) (fun r16 z17 h4 => zw_c (wX19_make (ztr rfl hM)  h4) (fun r20 z21 h5 => zw_c (wX19_set (ztr rfl hM)  h5) (fun _ z25 h6 => zw_c (wX19_hostSends (ztr rfl hM)  h6) (fun _ z29 h7 => zw_c (wX19_drop (ztr rfl hM)  h7) (fun _ z33 h8 => zw_s h8)))))))))))
def mX19_segment_152 : Nat := 0x0
theorem wX19_segment_152 {M : Nat} {N : Nat} {K19 : Nat → Nat → Int32 → Int32 → Int32 → Int32 → Int32 → St → Option (Int32 × St)} {x0 : Nat} {x1 : Nat} {x2 : Int32} {x3 : Int32} {x4 : Int32} {x5 : Int32} {x6 : Int32} {z0 z : St} (hM : mX19_segment_152 &&& M = mX19_segment_152)  (hK19 : ∀ a0 a1 a2 a3 a4 a5 a6 a7, zFr M z0 a7 → zPw M z0 (K19 a0 a1 a2 a3 a4 a5 a6 a7)) (h : zFr M z0 z) : zPw M z0 (fX19_segment_152 N K19 x0 x1 x2 x3 x4 x5 x6 z) := by
  unfold fX19_segment_152
  exact zw_l (fun v1 => hK19 _ _ _ _ _ _ _ _ h)
def mX19_segment_238 : Nat := 0x0
theorem wX19_segment_238 {M : Nat} {N : Nat} {K189 : Nat → Nat → Int32 → Int32 → Int32 → Int32 → Int32 → St → Option (Int32 × St)} {x0 : Nat} {x1 : Nat} {x2 : Int32} {x3 : Int32} {x4 : Int32} {x5 : Int32} {x6 : Int32} {z0 z : St} (hM : mX19_segment_238 &&& M = mX19_segment_238)  (hK189 : ∀ a0 a1 a2 a3 a4 a5 a6 a7, zFr M z0 a7 → zPw M z0 (K189 a0 a1 a2 a3 a4 a5 a6 a7)) (h : zFr M z0 z) : zPw M z0 (fX19_segment_238 N K189 x0 x1 x2 x3 x4 x5 x6 z) := by
  unfold fX19_segment_238
  exact zw_l (fun v1 => hK189 _ _ _ _ _ _ _ _ h)
def mX19_segment_319 : Nat := 0x129b7f200000000000000000000000008820884000000000000120000000000000000000000000000000180000000000000000000000803d0000001000000000000000000000000000002d0000000000000000000000000000000000000000000000000000000000000000000000000000000000000000000000000000000000000000000000000000000000000000000000000000000000000000000000000000000000000000000000000
theorem wX19_segment_319 {M : Nat} {N : Nat} {x0 : Nat} {x1 : Nat} {x3 : Int32} {x4 : Int32} {x5 : Int32} {x7 : Int32} {s0 : Nat} {s1 : Int32} {s2 : Int32} {s3 : Int32} {z0 z : St} (hM : mX19_segment_319 &&& M = mX19_segment_319)  (h : zFr M z0 z) : zPw M z0 (fX19_segment_319 N x0 x1 x3 x4 x5 x7 s0 s1 s2 s3 z) := by
  unfold fX19_segment_319
  exact zw_c (wX19_setSeg (ztr rfl hM)  h) (fun _ z2 h1 => zw_c (wX19_say (ztr rfl hM)  h1) (fun _ z6 h2 => zw_s h2))
def mX19_segment_289 : Nat := 0x129b7f200000000000000000000000008820884000000000000120000000000000000000000000000000180000000000000000000000803d0000001000000000000000000000000000002d0000000000000000000000000000000000000000000000000000000000000000000000000000000000000000000000000000000000000000000000000000000000000000000000000000000000000000000000000000000000000000000000000
theorem wX19_segment_289 {M : Nat} {N : Nat} {x0 : Nat} {x1 : Nat} {x2 : Int32} {x3 : Int32} {x4 : Int32} {x5 : Int32} {x6 : Int32} {s0 : Nat} {s1 : Int32} {s2 : Int32} {z0 z : St} (hM : mX19_segment_289 &&& M = mX19_segment_289)  (h : zFr M z0 z) : zPw M z0 (fX19_segment_289 N x0 x1 x2 x3 x4 x5 x6 s0 s1 s2 z) := by
  unfold fX19_segment_289
  exact zw_c (wX19_newSegment (ztr rfl hM)  h) (fun r1 z2 h1 => zw_i (zw_c (wX19_seg (ztr rfl hM)  h1) (fun r6 z7 h2 => zw_c (wX19_sizeOf (ztr rfl hM)  h2) (fun r10 z11 h3 => wX19_segment_319 (ztr rfl hM)  h3))) (wX19_segment_319 (ztr rfl hM)  h1))
def mX19_segment_274 : Nat := 0x129b7f200000000000000000000000008820884000000000000120000000000000000000000000000000180000000000000000000000803d0000001000000000000000000000000000002d0000000000000000000000000000000000000000000000000000000000000000000000000000000000000000000000000000000000000000000000000000000000000000000000000000000000000000000000000000000000000000000000000
theorem wX19_segment_274 {M : Nat} {N : Nat} {x0 : Nat} {x1 : Nat} {x2 : Int32} {x3 : Int32} {x4 : Int32} {x5 : Int32} {x6 : Int32} {s0 : Nat} {s1 : Int32} {z0 z : St} (hM : mX19_segment_274 &&& M = mX19_segment_274)  (h : zFr M z0 z) : zPw M z0 (fX19_segment_274 N x0 x1 x2 x3 x4 x5 x6 s0 s1 z) := by
  unfold fX19_segment_274
  exact zw_i (wX19_segment_289 (ztr rfl hM)  h) (zw_c (wX19_seg (ztr rfl hM)  h) (fun r2 z3 h1 => wX19_segment_289 (ztr rfl hM)  h1))
def mX19_segment_244 : Nat := 0x129b7f200000000000000000000000008820884000000000000120000000000000000000000000000000180000000000000000000000803d0000001000000000000000000000000000002d0000000000000000000000000000000000000000000000000000000000000000000000000000000000000000000000000000000000000000000000000000000000000000000000000000000000000000000000000000000000000000000000000
theorem wX19_segment_244 {M : Nat} {N : Nat} {x0 : Nat} {x1 : Nat} {x2 : Int32} {x3 : Int32} {x4 : Int32} {x5 : Int32} {z0 z : St} (hM : mX19_segment_244 &&& M = mX19_segment_244)  (h : zFr M z0 z) : zPw M z0 (fX19_segment_244 N x0 x1 x2 x3 x4 x5 z) := by
  unfold fX19_segment_244
  exact zw_c (wX19_has (ztr rfl hM)  h) (fun r1 z2 h1 => zw_i (zw_s h1) (zw_c (wX19_has (ztr rfl hM)  h1) (fun r6 z7 h2 => zw_i (wX19_segment_274 (ztr rfl hM)  h2) (wX19_segment_274 (ztr rfl hM)  h2))))
def mX19_segment_189b : Nat := 0x13db7f230000000000000000000000008820884000000000000120000000000000000000000000000000180000000000000000000007f3fffe7fbff00000000000003e800000000000002d0000000000000000000000000000000000000000000000000000000000000000000000000000000000000000000000000000000000000000000000000000000000000000000000000000000000000000000000000000000000000000000000000
theorem wX19_segment_189b {M : Nat} {N : Nat} {K189 : Nat → Nat → Int32 → Int32 → Int32 → Int32 → Int32 → St → Option (Int32 × St)} {x0 : Nat} {x1 : Nat} {x2 : Int32} {x3 : Int32} {x4 : Int32} {x5 : Int32} {x6 : Int32} {z0 z : St} (hM : mX19_segment_189b &&& M = mX19_segment_189b)  (hK189 : ∀ a0 a1 a2 a3 a4 a5 a6 a7, zFr M z0 a7 → zPw M z0 (K189 a0 a1 a2 a3 a4 a5 a6 a7)) (h : zFr M z0 z) : zPw M z0 (fX19_segment_189b N K189 x0 x1 x2 x3 x4 x5 x6 z) := by
  unfold fX19_segment_189b
  exact zw_i (wX19_segment_244 (ztr rfl hM)  h) (zw_k (zw_l (fun y3 => zw_d (fun a4 => zw_i (wX19_segment_238 (ztr rfl hM) hK189 h) (zw_k (zw_l (fun y7 => zw_d (fun a8 => zw_i (wX19_segment_238 (ztr rfl hM) hK189 h) (zw_c (wX19_knock (ztr rfl hM)  h) (fun _ z11 h1 => zw_s h1))))))))))
def mX19_segment_189 : Nat := 0x13db7f230000000000000000000000008820884000000000000120000000000000000000000000000000180000000000000000000007f3fffe7fbff00000000000003e800000000000002d0000000000000000000000000000000000000000000000000000000000000000000000000000000000000000000000000000000000000000000000000000000000000000000000000000000000000000000000000000000000000000000000000
theorem wX19_segment_189 {M : Nat} {z0 : St} {N : Nat}(hM : mX19_segment_189 &&& M = mX19_segment_189)  : ∀ (n : Nat) (y0 : Nat) (y1 : Nat) (y2 : Int32) (y3 : Int32) (y4 : Int32) (y5 : Int32) (y6 : Int32) (z : St), zFr M z0 z → zPw M z0 (fX19_segment_189 N n y0 y1 y2 y3 y4 y5 y6 z) := by
  intro n
  induction n with
  | zero => intro y0 y1 y2 y3 y4 y5 y6 z h; exact zw_n
  | succ n ih => intro y0 y1 y2 y3 y4 y5 y6 z h; exact wX19_segment_189b (ztr rfl hM)  (fun _ _ _ _ _ _ _ _ h => ih _ _ _ _ _ _ _ _ h) h
def mX19_segment_19b : Nat := 0x13db7f230000000000000000000000008820884000000000000120000000000000000000000000000000180000000000000000000007f3fffe7fbff00000000000003e800000000000002d0000000000000000000000000000000000000000000000000000000000000000000000000000000000000000000000000000000000000000000000000000000000000000000000000000000000000000000000000000000000000000000000000
theorem wX19_segment_19b {M : Nat} {N : Nat} {K19 : Nat → Nat → Int32 → Int32 → Int32 → Int32 → Int32 → St → Option (Int32 × St)} {x0 : Nat} {x1 : Nat} {x2 : Int32} {x3 : Int32} {x4 : Int32} {x5 : Int32} {x6 : Int32} {z0 z : St} (hM : mX19_segment_19b &&& M = mX19_segment_19b)  (hK19 : ∀ a0 a1 a2 a3 a4 a5 a6 a7, zFr M z0 a7 → zPw M z0 (K19 a0 a1 a2 a3 a4 a5 a6 a7)) (h : zFr M z0 z) : zPw M z0 (fX19_segment_19b N K19 x0 x1 x2 x3 x4 x5 x6 z) := by
  unfold fX19_segment_19b
  exact zw_i (zw_c (wX19_has (ztr rfl hM)  h) (fun r2 z3 h1 => zw_i (wX19_segment_244 (ztr rfl hM)  h1) (zw_c (wX19_has (ztr rfl hM)  h1) (fun r7 z8 h2 => zw_i (wX19_segment_244 (ztr rfl hM)  h2) (zw_c (wX19_has (ztr rfl hM)  h2) (fun r12 z13 h3 => zw_i (wX19_segment_244 (ztr rfl hM)  h3) (wX19_segment_189 (ztr rfl hM)  _ _ _ _ _ _ _ _ _ h3))))))) (zw_k (zw_l (fun y18 => zw_d (fun a19 => zw_l (fun y20 => zw_k (zw_l (fun y22 => zw_d (fun a23 => zw_i (wX19_segment_152 (ztr rfl hM) hK19 h) (zw_d (fun a25 => zw_c (wX14_isDead (ztr rfl hM)  h) (fun r26 z27 h4 => zw_i (wX19_segment_152 (ztr rfl hM) hK19 h4) (zw_i (wX19_segment_152 (ztr rfl hM) hK19 h4) (zw_i (wX19_segment_152 (ztr rfl hM) hK19 h4) (zw_i (wX19_segment_152 (ztr rfl hM) hK19 h4) (zw_c (wX19_arrives (ztr rfl hM)  h4) (fun r34 z35 h5 => zw_i (zw_s h5) (zw_c (wX14_begin (ztr rfl hM)  h5) (fun _ z40 h6 => zw_k (zw_lA h6 (ztb hM rfl) (fun z44 h7 => zw_c (wX19_dropBook (ztr rfl hM)  h7) (fun _ z46 h8 => zw_lI h8 (ztb hM rfl) (fun z49 h9 => zw_lI h9 (ztb hM rfl) (fun z50 h10 => zw_lI h10 (ztb hM rfl) (fun z51 h11 => zw_s h11))))))))))))))))))))))))
def mX19_segment_19 : Nat := 0x13db7f230000000000000000000000008820884000000000000120000000000000000000000000000000180000000000000000000007f3fffe7fbff00000000000003e800000000000002d0000000000000000000000000000000000000000000000000000000000000000000000000000000000000000000000000000000000000000000000000000000000000000000000000000000000000000000000000000000000000000000000000
theorem wX19_segment_19 {M : Nat} {z0 : St} {N : Nat}(hM : mX19_segment_19 &&& M = mX19_segment_19)  : ∀ (n : Nat) (y0 : Nat) (y1 : Nat) (y2 : Int32) (y3 : Int32) (y4 : Int32) (y5 : Int32) (y6 : Int32) (z : St), zFr M z0 z → zPw M z0 (fX19_segment_19 N n y0 y1 y2 y3 y4 y5 y6 z) := by
  intro n
  induction n with
  | zero => intro y0 y1 y2 y3 y4 y5 y6 z h; exact zw_n
  | succ n ih => intro y0 y1 y2 y3 y4 y5 y6 z h; exact wX19_segment_19b (ztr rfl hM)  (fun _ _ _ _ _ _ _ _ h => ih _ _ _ _ _ _ _ _ h) h
def mX19_segment : Nat := 0x13db7f230000000000000000000000008820884000000000000120000000000000000000000000000000180000000000000000000007f3fffe7fbff00000000000003e800000000000002d0000000000000000000000000000000000000000000000000000000000000000000000000000000000000000000000000000000000000000000000000000000000000000000000000000000000000000000000000000000000000000000000000
theorem wX19_segment {M : Nat} {N : Nat} {x0 : Nat} {x1 : Nat} {x2 : Int32} {x3 : Int32} {z0 z : St} (hM : mX19_segment &&& M = mX19_segment)  (h : zFr M z0 z) : zPw M z0 (fX19_segment N x0 x1 x2 x3 z) := by
  unfold fX19_segment
  exact zw_c (wX19_seg (ztr rfl hM)  h) (fun r1 z2 h1 => zw_c (wX19_seg (ztr rfl hM)  h1) (fun r5 z6 h2 => wX19_segment_19 (ztr rfl hM)  _ _ _ _ _ _ _ _ _ h2))
def mX19_handle_226 : Nat := 0x400000000000000000000000000000000000000000000000000000000000000000000000000000000000000000000000000000000000000000000000000000000000000000000000000000000000000000000000000000000000000000000000000000000000000000000000000000000000000000000000000000000000000000000000000000000000000000000000000000000000000000000000000000000000000000000000
theorem wX19_handle_226 {M : Nat} {N : Nat} {x0 : Nat} {x2 : Int32} {x4 : Option Nat} {x5 : Int32} {s0 : Int32} {z0 z : St} (hM : mX19_handle_226 &&& M = mX19_handle_226)  (h : zFr M z0 z) : zPw M z0 (fX19_handle_226 N x0 x2 x4 x5 s0 z) := by
  unfold fX19_handle_226
  exact zw_i (zw_s h) (zw_c (wX19_ad (ztr rfl hM)  h) (fun r2 z3 h1 => zw_c (wX19_of (ztr rfl hM)  h1) (fun r6 z7 h2 => zw_i (zw_s h2) (zw_d (fun a11 => zw_k (zw_lA h2 (ztb hM rfl) (fun z13 h3 => zw_s h3)))))))
def mX19_handle_162 : Nat := 0x400000000000000000000000000000000000000000000000000000000000000000000000000000000000000000000000000000000000000000000000000000000000000000000000000000000000000000000000000000000000000000000000000000000000000000000000000000000000000000000000000000000000000000000000000000000000000000000000000000000000000000000000000000000000000000000000
theorem wX19_handle_162 {M : Nat} {N : Nat} {x0 : Nat} {x1 : Nat} {x2 : Int32} {x3 : Int32} {z0 z : St} (hM : mX19_handle_162 &&& M = mX19_handle_162)  (h : zFr M z0 z) : zPw M z0 (fX19_handle_162 N x0 x1 x2 x3 z) := by
  unfold fX19_handle_162
  exact zw_i (zw_s h) (zw_i (zw_s h) (zw_c (wX19_of (ztr rfl hM)  h) (fun r3 z4 h1 => zw_c (wX19_of (ztr rfl hM)  h1) (fun r7 z8 h2 => zw_c (wX19_friend (ztr rfl hM)  h2) (fun r11 z12 h3 => zw_c (wX19_of (ztr rfl hM)  h3) (fun r15 z16 h4 => zw_l (fun v19 => zw_o (wX19_handle_226 (ztr rfl hM)  h4) (fun a21 => zw_k (wX19_handle_226 (ztr rfl hM)  h4)))))))))
def mX19_handle_141 : Nat := 0x18000c07c00000000000000000000080008000000000000000000000000000000000000000000000000000000000000000000000000000000000000000000000000000000000000c20000000000000000000000000000000000000000000000000000000000000000000000000000000000000000000000000000000000000000000000000000000000000000000000000000000000000000000000000000000000000000000000000000
theorem wX19_handle_141 {M : Nat} {N : Nat} {x0 : Nat} {x1 : Nat} {x2 : Int32} {x3 : Int32} {z0 z : St} (hM : mX19_handle_141 &&& M = mX19_handle_141)  (h : zFr M z0 z) : zPw M z0 (fX19_handle_141 N x0 x1 x2 x3 z) := by
  unfold fX19_handle_141
  exact zw_i (wX19_handle_162 (ztr rfl hM)  h) (zw_i (wX19_handle_162 (ztr rfl hM)  h) (zw_c (wX19_advertCame (ztr rfl hM)  h) (fun _ z4 h1 => zw_s h1)))
def mX19_handle_100 : Nat := 0x18000c07e0000000000000000000008000800000000000000000000000000000000000000000000000000000000000000000f000000000000000000000000000000000000000001c22000000000000000000000000000000000000000000000000000000000000000000000000000000000000000000000000000000000000000000000000000000000000000000000000000000000000000000000000000000000000000000000000000
theorem wX19_handle_100 {M : Nat} {N : Nat} {x0 : Nat} {x1 : Nat} {x2 : Int32} {x3 : Int32} {z0 z : St} (hM : mX19_handle_100 &&& M = mX19_handle_100)  (h : zFr M z0 z) : zPw M z0 (fX19_handle_100 N x0 x1 x2 x3 z) := by
  unfold fX19_handle_100
  exact zw_i (wX19_handle_141 (ztr rfl hM)  h) (zw_i (wX19_handle_141 (ztr rfl hM)  h) (zw_c (wX19_of (ztr rfl hM)  h) (fun r3 z4 h1 => zw_c (wX19_of (ztr rfl hM)  h1) (fun r7 z8 h2 => zw_c (wX19_of (ztr rfl hM)  h2) (fun r11 z12 h3 => zw_c (wX19_greeted (ztr rfl hM)  h3) (fun _ z16 h4 => zw_s h4))))))
def mX19_handle : Nat := 0x13db7f2f07e0000000000000000000008820884000000000000120000000000000000000000000000000180000000000000000f00007f3fffe7fbff00000000000003e80000000001c222f0000000000000000000000000000000000000000000000000000000000000000000000000000000000000000000000000000000000000000000000000000000000000000000000000000000000000000000000000000000000000000000000000
theorem wX19_handle {M : Nat} {N : Nat} {x0 : Nat} {x1 : Nat} {x2 : Int32} {z0 z : St} (hM : mX19_handle &&& M = mX19_handle)  (h : zFr M z0 z) : zPw M z0 (fX19_handle N x0 x1 x2 z) := by
  unfold fX19_handle
  exact zw_lI h (ztb hM rfl) (fun z1 h1 => zw_c (wX19_of (ztr rfl hM)  h1) (fun r2 z3 h2 => zw_i (zw_i (wX19_handle_100 (ztr rfl hM)  h2) (zw_i (wX19_handle_100 (ztr rfl hM)  h2) (zw_c (wX19_of (ztr rfl hM)  h2) (fun r9 z10 h3 => zw_c (wX19_of (ztr rfl hM)  h3) (fun r13 z14 h4 => zw_c (wX19_segment (ztr rfl hM)  h4) (fun _ z18 h5 => zw_s h5)))))) (zw_lI h2 (ztb hM rfl) (fun z21 h6 => zw_c (wX19_of (ztr rfl hM)  h6) (fun r22 z23 h7 => zw_c (wX19_of (ztr rfl hM)  h7) (fun r26 z27 h8 => zw_c (wX19_of (ztr rfl hM)  h8) (fun r30 z31 h9 => zw_c (wX19_of (ztr rfl hM)  h9) (fun r34 z35 h10 => zw_c (wX19_act (ztr rfl hM)  h10) (fun _ z39 h11 => zw_s h11)))))))))
def mX19_get_102 : Nat := 0x0
theorem wX19_get_102 {M : Nat} {N : Nat} {K22 : Nat → Nat → Int32 → Int32 → Int32 → St → Option (Int32 × St)} {x0 : Nat} {x1 : Nat} {x2 : Int32} {x4 : Int32} {s0 : Int32} {z0 z : St} (hM : mX19_get_102 &&& M = mX19_get_102)  (hK22 : ∀ a0 a1 a2 a3 a4 a5, zFr M z0 a5 → zPw M z0 (K22 a0 a1 a2 a3 a4 a5)) (h : zFr M z0 z) : zPw M z0 (fX19_get_102 N K22 x0 x1 x2 x4 s0 z) := by
  unfold fX19_get_102
  exact zw_l (fun v1 => hK22 _ _ _ _ _ _ h)
def mX19_get_101 : Nat := 0x0
theorem wX19_get_101 {M : Nat} {N : Nat} {K22 : Nat → Nat → Int32 → Int32 → Int32 → St → Option (Int32 × St)} {x0 : Nat} {x1 : Nat} {x2 : Int32} {x3 : Int32} {x4 : Int32} {z0 z : St} (hM : mX19_get_101 &&& M = mX19_get_101)  (hK22 : ∀ a0 a1 a2 a3 a4 a5, zFr M z0 a5 → zPw M z0 (K22 a0 a1 a2 a3 a4 a5)) (h : zFr M z0 z) : zPw M z0 (fX19_get_101 N K22 x0 x1 x2 x3 x4 z) := by
  unfold fX19_get_101
  exact wX19_get_102 (ztr rfl hM) hK22 h
def mX19_get_317 : Nat := 0x13db7f2f07f0000000000000000000008820884000000000000120000000000000000000000000000000180000000000000000f00007f3fffe7fbff00000000000003e80000000001c22bf0000000000000000000000000000000000000000000000000000000000000000000000000000000000000000000000000000000000000000000000000000000000000000000000000000000000000000000000000000000000000000000000000
theorem wX19_get_317 {M : Nat} {N : Nat} {x0 : Nat} {x1 : Nat} {x2 : Int32} {x3 : Int32} {x4 : Option Nat} {z0 z : St} (hM : mX19_get_317 &&& M = mX19_get_317)  (h : zFr M z0 z) : zPw M z0 (fX19_get_317 N x0 x1 x2 x3 x4 z) := by
  unfold fX19_get_317
  exact zw_d (fun a1 => zw_c (wX17_isWhole (ztr rfl hM)  h) (fun r2 z3 h1 => zw_i (zw_s h1) (zw_c (wX19_endPieces (ztr rfl hM)  h1) (fun _ z8 h2 => zw_lI h2 (ztb hM rfl) (fun z11 h3 => zw_c (wX19_handle (ztr rfl hM)  h3) (fun _ z13 h4 => zw_s h4))))))
def mX19_get_275b : Nat := 0x13db7f6f07f0000000000000000000008820884000000000000120000000000000000200000000000000180000000000000000f00007f3fffe7fbff00000000000003e80000000001c22bf0000000000000000000000000000000000000000000000000000000000000000000000000000000000000000000000000000000000000000000000000000000000000000000000000000000000000000000000000000000000000000000000000
theorem wX19_get_275b {M : Nat} {N : Nat} {K275 : Nat → Nat → Int32 → Int32 → Option Nat → Int32 → Int32 → St → Option (Int32 × St)} {x0 : Nat} {x1 : Nat} {x2 : Int32} {x3 : Int32} {x4 : Option Nat} {x5 : Int32} {x6 : Int32} {z0 z : St} (hM : mX19_get_275b &&& M = mX19_get_275b)  (hK275 : ∀ a0 a1 a2 a3 a4 a5 a6 a7, zFr M z0 a7 → zPw M z0 (K275 a0 a1 a2 a3 a4 a5 a6 a7)) (h : zFr M z0 z) : zPw M z0 (fX19_get_275b N K275 x0 x1 x2 x3 x4 x5 x6 z) := by
  unfold fX19_get_275b
  exact zw_i (zw_c (wX19_of (ztr rfl hM)  h) (fun r2 z3 h1 => zw_i (wX19_get_317 (ztr rfl hM)  h1) (zw_d (fun a7 => zw_lI h1 (ztb hM rfl) (fun z8 h2 => wX19_get_317 (ztr rfl hM)  h2))))) (zw_d (fun a9 => zw_k (zw_lA h (ztb hM rfl) (fun z11 h3 => zw_l (fun v12 => hK275 _ _ _ _ _ _ _ _ h3)))))
def mX19_get_275 : Nat := 0x13db7f6f07f0000000000000000000008820884000000000000120000000000000000200000000000000180000000000000000f00007f3fffe7fbff00000000000003e80000000001c22bf0000000000000000000000000000000000000000000000000000000000000000000000000000000000000000000000000000000000000000000000000000000000000000000000000000000000000000000000000000000000000000000000000
theorem wX19_get_275 {M : Nat} {z0 : St} {N : Nat}(hM : mX19_get_275 &&& M = mX19_get_275)  : ∀ (n : Nat) (y0 : Nat) (y1 : Nat) (y2 : Int32) (y3 : Int32) (y4 : Option Nat) (y5 : Int32) (y6 : Int32) (z : St), zFr M z0 z → zPw M z0 (fX19_get_275 N n y0 y1 y2 y3 y4 y5 y6 z) := by
  intro n
  induction n with
  | zero => intro y0 y1 y2 y3 y4 y5 y6 z h; exact zw_n
  | succ n ih => intro y0 y1 y2 y3 y4 y5 y6 z h; exact wX19_get_275b (ztr rfl hM)  (fun _ _ _ _ _ _ _ _ h => ih _ _ _ _ _ _ _ _ h) h
def mX19_get_239 : Nat := 0x13db7f6f07f0000000000000000000008820884000000000000120000000000000000200000000000000180000000000000000f00007f3fffe7fbff00000000000003e80000000001c22bf0000000000000000000000000000000000000000000000000000000000000000000000000000000000000000000000000000000000000000000000000000000000000000000000000000000000000000000000000000000000000000000000000
theorem wX19_get_239 {M : Nat} {N : Nat} {x0 : Nat} {x1 : Nat} {x2 : Int32} {x3 : Int32} {z0 z : St} (hM : mX19_get_239 &&& M = mX19_get_239)  (h : zFr M z0 z) : zPw M z0 (fX19_get_239 N x0 x1 x2 x3 z) := by
  unfold fX19_get_239
  exact zw_k (zw_l (fun y2 => zw_c (wX19_of (ztr rfl hM)  h) (fun r3 z4 h1 => zw_c (wX19_of (ztr rfl hM)  h1) (fun r7 z8 h2 => zw_l (fun v11 => zw_c (wX19_of (ztr rfl hM)  h2) (fun r12 z13 h3 => zw_l (fun v16 => wX19_get_275 (ztr rfl hM)  _ _ _ _ _ _ _ _ _ h3)))))))
def mX19_get_216b : Nat := 0x13db7f6f07f0000000000000000000008820884000000000000120000000000000000200000000000000180000000000000000f00007f3fffe7fbff00000000000003e80000000001c22bf0000000000000000000000000000000000000000000000000000000000000000000000000000000000000000000000000000000000000000000000000000000000000000000000000000000000000000000000000000000000000000000000000
theorem wX19_get_216b {M : Nat} {N : Nat} {K216 : Nat → Nat → Int32 → Int32 → Nat → Int32 → St → Option (Int32 × St)} {x0 : Nat} {x1 : Nat} {x2 : Int32} {x3 : Int32} {x4 : Nat} {x5 : Int32} {z0 z : St} (hM : mX19_get_216b &&& M = mX19_get_216b)  (hK216 : ∀ a0 a1 a2 a3 a4 a5 a6, zFr M z0 a6 → zPw M z0 (K216 a0 a1 a2 a3 a4 a5 a6)) (h : zFr M z0 z) : zPw M z0 (fX19_get_216b N K216 x0 x1 x2 x3 x4 x5 z) := by
  unfold fX19_get_216b
  exact zw_i (wX19_get_239 (ztr rfl hM)  h) (zw_k (zw_lA h (ztb hM rfl) (fun z3 h1 => zw_l (fun v4 => hK216 _ _ _ _ _ _ _ h1))))
def mX19_get_216 : Nat := 0x13db7f6f07f0000000000000000000008820884000000000000120000000000000000200000000000000180000000000000000f00007f3fffe7fbff00000000000003e80000000001c22bf0000000000000000000000000000000000000000000000000000000000000000000000000000000000000000000000000000000000000000000000000000000000000000000000000000000000000000000000000000000000000000000000000
theorem wX19_get_216 {M : Nat} {z0 : St} {N : Nat}(hM : mX19_get_216 &&& M = mX19_get_216)  : ∀ (n : Nat) (y0 : Nat) (y1 : Nat) (y2 : Int32) (y3 : Int32) (y4 : Nat) (y5 : Int32) (z : St), zFr M z0 z → zPw M z0 (fX19_get_216 N n y0 y1 y2 y3 y4 y5 z) := by
  intro n
  induction n with
  | zero => intro y0 y1 y2 y3 y4 y5 z h; exact zw_n
  | succ n ih => intro y0 y1 y2 y3 y4 y5 z h; exact wX19_get_216b (ztr rfl hM)  (fun _ _ _ _ _ _ _ h => ih _ _ _ _ _ _ _ h) h
def mX19_get_131 : Nat := 0x13db7f6f07f00000000000000000000088208840000000000001200000000000000003f0000000000000180000000000000000f00007f3fffe7fbff00000000000003e80000000001c22bf0000000000000000000000000000000000000000000000000000000000000000000000000000000000000000000000000000000000000000000000000000000000000000000000000000000000000000000000000000000000000000000000000
theorem wX19_get_131 {M : Nat} {N : Nat} {x0 : Nat} {x1 : Nat} {x2 : Int32} {z0 z : St} (hM : mX19_get_131 &&& M = mX19_get_131)  (h : zFr M z0 z) : zPw M z0 (fX19_get_131 N x0 x1 x2 z) := by
  unfold fX19_get_131
  exact zw_l (fun v1 => zw_lI h (ztb hM rfl) (fun z2 h1 => zw_k (zw_l (fun y4 => zw_c (wX19_of (ztr rfl hM)  h1) (fun r5 z6 h2 => zw_d (fun a9 => zw_lI h2 (ztb hM rfl) (fun z10 h3 => zw_c (wX19_of (ztr rfl hM)  h3) (fun r11 z12 h4 => zw_lI h4 (ztb hM rfl) (fun z15 h5 => zw_c (wX19_of (ztr rfl hM)  h5) (fun r16 z17 h6 => zw_lI h6 (ztb hM rfl) (fun z20 h7 => zw_c (wX19_of (ztr rfl hM)  h7) (fun r21 z22 h8 => zw_lI h8 (ztb hM rfl) (fun z25 h9 => zw_lI h9 (ztb hM rfl) (fun z26 h10 => zw_lI h10 (ztb hM rfl) (fun z27 h11 => wX19_get_216 (ztr rfl hM)  _ _ _ _ _ _ _ _ h11)))))))))))))))
def mX19_get_22b : Nat := 0x13db7f6f07f00000000000000000000088208840000000000001200000000000000003f0000000000000180000000000000000f00007f3fffe7fbff00000000000003e80000000001c22bf0000000000000000000000000000000000000000000000000000000000000000000000000000000000000000000000000000000000000000000000000000000000000000000000000000000000000000000000000000000000000000000000000
theorem wX19_get_22b {M : Nat} {N : Nat} {K22 : Nat → Nat → Int32 → Int32 → Int32 → St → Option (Int32 × St)} {x0 : Nat} {x1 : Nat} {x2 : Int32} {x3 : Int32} {x4 : Int32} {z0 z : St} (hM : mX19_get_22b &&& M = mX19_get_22b)  (hK22 : ∀ a0 a1 a2 a3 a4 a5, zFr M z0 a5 → zPw M z0 (K22 a0 a1 a2 a3 a4 a5)) (h : zFr M z0 z) : zPw M z0 (fX19_get_22b N K22 x0 x1 x2 x3 x4 z) := by
  unfold fX19_get_22b
  exact zw_i (zw_i (wX19_get_239 (ztr rfl hM)  h) (zw_i (wX19_get_131 (ztr rfl hM)  h) (zw_c (wX19_endPieces (ztr rfl hM)  h) (fun _ z5 h1 => zw_c (wX19_stir (ztr rfl hM)  h1) (fun _ z9 h2 => wX19_get_131 (ztr rfl hM)  h2))))) (zw_k (zw_l (fun y13 => zw_d (fun a14 => zw_c (wX19_of (ztr rfl hM)  h) (fun r15 z16 h3 => zw_i (wX19_get_101 (ztr rfl hM) hK22 h3) (zw_c (wX19_of (ztr rfl hM)  h3) (fun r20 z21 h4 => zw_i (wX19_get_101 (ztr rfl hM) hK22 h4) (zw_c (wX19_of (ztr rfl hM)  h4) (fun r25 z26 h5 => zw_i (wX19_get_101 (ztr rfl hM) hK22 h5) (zw_c (wX19_of (ztr rfl hM)  h5) (fun r30 z31 h6 => zw_i (wX19_get_101 (ztr rfl hM) hK22 h6) (wX19_get_102 (ztr rfl hM) hK22 h6))))))))))))
def mX19_get_22 : Nat := 0x13db7f6f07f00000000000000000000088208840000000000001200000000000000003f0000000000000180000000000000000f00007f3fffe7fbff00000000000003e80000000001c22bf0000000000000000000000000000000000000000000000000000000000000000000000000000000000000000000000000000000000000000000000000000000000000000000000000000000000000000000000000000000000000000000000000
theorem wX19_get_22 {M : Nat} {z0 : St} {N : Nat}(hM : mX19_get_22 &&& M = mX19_get_22)  : ∀ (n : Nat) (y0 : Nat) (y1 : Nat) (y2 : Int32) (y3 : Int32) (y4 : Int32) (z : St), zFr M z0 z → zPw M z0 (fX19_get_22 N n y0 y1 y2 y3 y4 z) := by
  intro n
  induction n with
  | zero => intro y0 y1 y2 y3 y4 z h; exact zw_n
  | succ n ih => intro y0 y1 y2 y3 y4 z h; exact wX19_get_22b (ztr rfl hM)  (fun _ _ _ _ _ _ h => ih _ _ _ _ _ _ h) h
def mX19_get : Nat := 0x13db7f6f07f00000000000000000000088208840000000000001200000000000000003f0000000000000180000000000000000f00007f3fffe7fbff00000000000003e80000000001c22bf0000000000000000000000000000000000000000000000000000000000000000000000000000000000000000000000000000000000000000000000000000000000000000000000000000000000000000000000000000000000000000000000000
theorem wX19_get {M : Nat} {N : Nat} {x0 : Nat} {x1 : Nat} {x2 : Int32} {z0 z : St} (hM : mX19_get &&& M = mX19_get)  (h : zFr M z0 z) : zPw M z0 (fX19_get N x0 x1 x2 z) := by
  unfold fX19_get
  exact zw_c (wX19_of (ztr rfl hM)  h) (fun r1 z2 h1 => zw_i (wX19_get_22 (ztr rfl hM)  _ _ _ _ _ _ _ h1) (zw_c (wX19_handle (ztr rfl hM)  h1) (fun _ z7 h2 => zw_s h2)))
def mX19_arrive_206 : Nat := 0x29b200000000000000000000000000000208840000000000000000000000000000000000000000000000000000000000000000000000000000000000000000000000000000000000000000000000000000000000000000000000000000000000000000000000000000000000000000000000000000000000000000000000000000000000000000000000000000000000000000000000000000000000000000000000000000000000000000
theorem wX19_arrive_206 {M : Nat} {N : Nat} {x0 : Nat} {x8 : Int32} {z0 z : St} (hM : mX19_arrive_206 &&& M = mX19_arrive_206)  (h : zFr M z0 z) : zPw M z0 (fX19_arrive_206 N x0 x8 z) := by
  unfold fX19_arrive_206
  exact zw_c (wX19_drop (ztr rfl hM)  h) (fun _ z2 h1 => zw_s h1)
def mX19_arrive_147 : Nat := 0x13db7f6f07f00000000000000000000088208840000000000001200000000000000003f0000000000000180000000000000000f00007f3fffe7fbff00000000000003e80000000001c22bf0000000000000000000000000000000000000000000000000000000000000000000000000000000000000000000000000000000000000000000000000000000000000000000000000000000000000000000000000000000000000000000000000
theorem wX19_arrive_147 {M : Nat} {N : Nat} {x0 : Nat} {x1 : Nat} {x8 : Int32} {z0 z : St} (hM : mX19_arrive_147 &&& M = mX19_arrive_147)  (h : zFr M z0 z) : zPw M z0 (fX19_arrive_147 N x0 x1 x8 z) := by
  unfold fX19_arrive_147
  exact zw_l (fun y1 => zw_d (fun a2 => zw_c (wX19_get (ztr rfl hM)  h) (fun _ z4 h1 => wX19_arrive_206 (ztr rfl hM)  h1)))
def mX19_arrive_196 : Nat := 0x129b3f200000000000000000000000008820884000000000000120000000000000000000000000000000180000000000000000000000803d0000001000000000000000000000000000002d0000000000000000000000000000000000000000000000000000000000000000000000000000000000000000000000000000000000000000000000000000000000000000000000000000000000000000000000000000000000000000000000000
theorem wX19_arrive_196 {M : Nat} {N : Nat} {x0 : Nat} {x1 : Nat} {x8 : Int32} {z0 z : St} (hM : mX19_arrive_196 &&& M = mX19_arrive_196)  (h : zFr M z0 z) : zPw M z0 (fX19_arrive_196 N x0 x1 x8 z) := by
  unfold fX19_arrive_196
  exact zw_l (fun y1 => zw_d (fun a2 => zw_c (wX19_forward (ztr rfl hM)  h) (fun _ z4 h1 => wX19_arrive_206 (ztr rfl hM)  h1)))
def mX19_arrive_68 : Nat := 0x13db7f6f07f00000000000000000000088208840000000000001200000000000000003f0000000000000180000000000000000f00007f3fffe7fbff00000000000003e80000000001c22bf0000000000000000000000000000000000000000000000000000000000000000000000000000000000000000000000000000000000000000000000000000000000000000000000000000000000000000000000000000000000000000000000000
theorem wX19_arrive_68 {M : Nat} {N : Nat} {x0 : Nat} {x1 : Nat} {x2 : Int32} {x3 : Int32} {x4 : Int32} {x5 : Int32} {x6 : Int32} {z0 z : St} (hM : mX19_arrive_68 &&& M = mX19_arrive_68)  (h : zFr M z0 z) : zPw M z0 (fX19_arrive_68 N x0 x1 x2 x3 x4 x5 x6 z) := by
  unfold fX19_arrive_68
  exact zw_i (zw_i (zw_s h) (zw_c (wX19_copyOf (ztr rfl hM)  h) (fun r3 z4 h1 => zw_c (wX19_set (ztr rfl hM)  h1) (fun _ z8 h2 => zw_c (wX19_of (ztr rfl hM)  h2) (fun r11 z12 h3 => zw_i (wX19_arrive_147 (ztr rfl hM)  h3) (zw_l (fun y16 => zw_d (fun a17 => zw_c (wX19_isOwn (ztr rfl hM)  h3) (fun r18 z19 h4 => zw_i (zw_l (fun y23 => zw_d (fun a24 => zw_i (wX19_arrive_206 (ztr rfl hM)  h4) (zw_i (wX19_arrive_206 (ztr rfl hM)  h4) (zw_c (wX19_of (ztr rfl hM)  h4) (fun r27 z28 h5 => zw_i (wX19_arrive_196 (ztr rfl hM)  h5) (zw_c (wX19_of (ztr rfl hM)  h5) (fun r32 z33 h6 => zw_i (wX19_arrive_206 (ztr rfl hM)  h6) (wX19_arrive_196 (ztr rfl hM)  h6))))))))) (wX19_arrive_147 (ztr rfl hM)  h4)))))))))) (zw_c (wX18_address (ztr rfl hM)  h) (fun r37 z38 h7 => zw_i (zw_s h7) (zw_c (wX19_put (ztr rfl hM)  h7) (fun _ z43 h8 => zw_s h8))))
def mX19_arrive_37b : Nat := 0x13db7f6f07f00000000000000000000088208840000000000001200000000000000003f0000000000000180000000000000000f00007f3fffe7fbff00000000000003e80000000001c22bf0000000000000000000000000000000000000000000000000000000000000000000000000000000000000000000000000000000000000000000000000000000000000000000000000000000000000000000000000000000000000000000000000
theorem wX19_arrive_37b {M : Nat} {N : Nat} {K37 : Nat → Nat → Int32 → Int32 → Int32 → Int32 → Int32 → Int32 → St → Option (Int32 × St)} {x0 : Nat} {x1 : Nat} {x2 : Int32} {x3 : Int32} {x4 : Int32} {x5 : Int32} {x6 : Int32} {x8 : Int32} {z0 z : St} (hM : mX19_arrive_37b &&& M = mX19_arrive_37b)  (hK37 : ∀ a0 a1 a2 a3 a4 a5 a6 a7 a8, zFr M z0 a8 → zPw M z0 (K37 a0 a1 a2 a3 a4 a5 a6 a7 a8)) (h : zFr M z0 z) : zPw M z0 (fX19_arrive_37b N K37 x0 x1 x2 x3 x4 x5 x6 x8 z) := by
  unfold fX19_arrive_37b
  exact zw_i (wX19_arrive_68 (ztr rfl hM)  h) (zw_c (wX19_carry (ztr rfl hM)  h) (fun _ z3 h1 => zw_c (wX19_drop (ztr rfl hM)  h1) (fun _ z7 h2 => zw_c (wX19_firstWaiting (ztr rfl hM)  h2) (fun r10 z11 h3 => hK37 _ _ _ _ _ _ _ _ _ h3))))
def mX19_arrive_37 : Nat := 0x13db7f6f07f00000000000000000000088208840000000000001200000000000000003f0000000000000180000000000000000f00007f3fffe7fbff00000000000003e80000000001c22bf0000000000000000000000000000000000000000000000000000000000000000000000000000000000000000000000000000000000000000000000000000000000000000000000000000000000000000000000000000000000000000000000000
theorem wX19_arrive_37 {M : Nat} {z0 : St} {N : Nat}(hM : mX19_arrive_37 &&& M = mX19_arrive_37)  : ∀ (n : Nat) (y0 : Nat) (y1 : Nat) (y2 : Int32) (y3 : Int32) (y4 : Int32) (y5 : Int32) (y6 : Int32) (y7 : Int32) (z : St), zFr M z0 z → zPw M z0 (fX19_arrive_37 N n y0 y1 y2 y3 y4 y5 y6 y7 z) := by
  intro n
  induction n with
  | zero => intro y0 y1 y2 y3 y4 y5 y6 y7 z h; exact zw_n
  | succ n ih => intro y0 y1 y2 y3 y4 y5 y6 y7 z h; exact wX19_arrive_37b (ztr rfl hM)  (fun _ _ _ _ _ _ _ _ _ h => ih _ _ _ _ _ _ _ _ _ h) h
def mX19_arrive : Nat := 0x13db7fef07f00000000000000000000088208840000000000001200000000000000003f0000000000000180000000000000000f00007f3fffe7fbff00000000000003e80000000001c22bf0000000000000000000000000000000000000000000000000000000000000000000000000000000000000000000000000000000000000000000000000000000000000000000000000000000000000000000000000000000000000000000000000
theorem wX19_arrive {M : Nat} {N : Nat} {x0 : Nat} {x1 : Nat} {x2 : Int32} {x3 : Int32} {x4 : Int32} {x5 : Int32} {x6 : Int32} {z0 z : St} (hM : mX19_arrive &&& M = mX19_arrive)  (h : zFr M z0 z) : zPw M z0 (fX19_arrive N x0 x1 x2 x3 x4 x5 x6 z) := by
  unfold fX19_arrive
  exact zw_k (zw_lA h (ztb hM rfl) (fun z2 h1 => zw_c (wX18_askingOf (ztr rfl hM)  h1) (fun r3 z4 h2 => zw_i (wX19_arrive_68 (ztr rfl hM)  h2) (zw_c (wX18_endAsking (ztr rfl hM)  h2) (fun _ z9 h3 => zw_c (wX19_firstWaiting (ztr rfl hM)  h3) (fun r12 z13 h4 => wX19_arrive_37 (ztr rfl hM)  _ _ _ _ _ _ _ _ _ _ h4))))))
def mX19_arriveAll_186 : Nat := 0x0
theorem wX19_arriveAll_186 {M : Nat} {N : Nat} {K2 : Nat → Int32 → St → Option (Int32 × St)} {K125 : Nat → Int32 → Int32 → Int32 → Int32 → Int32 → Int32 → Option Nat → Int32 → St → Option (Int32 × St)} {x0 : Nat} {x1 : Int32} {x3 : Int32} {x4 : Int32} {x5 : Int32} {x6 : Int32} {x7 : Int32} {x8 : Nat} {x9 : Int32} {z0 z : St} (hM : mX19_arriveAll_186 &&& M = mX19_arriveAll_186)  (hK2 : ∀ a0 a1 a2, zFr M z0 a2 → zPw M z0 (K2 a0 a1 a2)) (hK125 : ∀ a0 a1 a2 a3 a4 a5 a6 a7 a8 a9, zFr M z0 a9 → zPw M z0 (K125 a0 a1 a2 a3 a4 a5 a6 a7 a8 a9)) (h : zFr M z0 z) : zPw M z0 (fX19_arriveAll_186 N K2 K125 x0 x1 x3 x4 x5 x6 x7 x8 x9 z) := by
  unfold fX19_arriveAll_186
  exact zw_l (fun v1 => hK125 _ _ _ _ _ _ _ _ _ _ h)
def mX19_arriveAll_154 : Nat := 0x13db7fef07f00000000000000000000088208840000000000001200000000000000003f0000000000000380000000000000000f00007f3fffe7fbff00000000000003e80000000001c22bf0000000000000000000000000000000000000000000000000000000000000000000000000000000000000000000000000000000000000000000000000000000000000000000000000000000000000000000000000000000000000000000000000
theorem wX19_arriveAll_154 {M : Nat} {N : Nat} {K2 : Nat → Int32 → St → Option (Int32 × St)} {K125 : Nat → Int32 → Int32 → Int32 → Int32 → Int32 → Int32 → Option Nat → Int32 → St → Option (Int32 × St)} {x0 : Nat} {x1 : Int32} {x3 : Int32} {x4 : Int32} {x5 : Int32} {x6 : Int32} {x7 : Int32} {x8 : Nat} {x9 : Int32} {z0 z : St} (hM : mX19_arriveAll_154 &&& M = mX19_arriveAll_154)  (hK2 : ∀ a0 a1 a2, zFr M z0 a2 → zPw M z0 (K2 a0 a1 a2)) (hK125 : ∀ a0 a1 a2 a3 a4 a5 a6 a7 a8 a9, zFr M z0 a9 → zPw M z0 (K125 a0 a1 a2 a3 a4 a5 a6 a7 a8 a9)) (h : zFr M z0 z) : zPw M z0 (fX19_arriveAll_154 N K2 K125 x0 x1 x3 x4 x5 x6 x7 x8 x9 z) := by
  unfold fX19_arriveAll_154
  exact zw_lI h (ztb hM rfl) (fun z1 h1 => zw_k (zw_l (fun y3 => zw_d (fun a4 => zw_c (wX19_arrive (ztr rfl hM)  h1) (fun _ z6 h2 => wX19_arriveAll_186 (ztr rfl hM) hK2 hK125 h2)))))
def mX19_arriveAll_204 : Nat := 0x0
theorem wX19_arriveAll_204 {M : Nat} {N : Nat} {K2 : Nat → Int32 → St → Option (Int32 × St)} {x0 : Nat} {x1 : Int32} {z0 z : St} (hM : mX19_arriveAll_204 &&& M = mX19_arriveAll_204)  (hK2 : ∀ a0 a1 a2, zFr M z0 a2 → zPw M z0 (K2 a0 a1 a2)) (h : zFr M z0 z) : zPw M z0 (fX19_arriveAll_204 N K2 x0 x1 z) := by
  unfold fX19_arriveAll_204
  exact hK2 _ _ _ h
def mX19_arriveAll_125b : Nat := 0x13db7fef07f00000000000000000000088208840000000000001200000000000000003f0000000000000380000000000000000f00007f3fffe7fbff00000000000003e80000000001c22bf0000000000000000000000000000000000000000000000000000000000000000000000000000000000000000000000000000000000000000000000000000000000000000000000000000000000000000000000000000000000000000000000000
theorem wX19_arriveAll_125b {M : Nat} {N : Nat} {K2 : Nat → Int32 → St → Option (Int32 × St)} {K125 : Nat → Int32 → Int32 → Int32 → Int32 → Int32 → Int32 → Option Nat → Int32 → St → Option (Int32 × St)} {x0 : Nat} {x1 : Int32} {x3 : Int32} {x4 : Int32} {x5 : Int32} {x6 : Int32} {x7 : Int32} {x8 : Option Nat} {x9 : Int32} {z0 z : St} (hM : mX19_arriveAll_125b &&& M = mX19_arriveAll_125b)  (hK2 : ∀ a0 a1 a2, zFr M z0 a2 → zPw M z0 (K2 a0 a1 a2)) (hK125 : ∀ a0 a1 a2 a3 a4 a5 a6 a7 a8 a9, zFr M z0 a9 → zPw M z0 (K125 a0 a1 a2 a3 a4 a5 a6 a7 a8 a9)) (h : zFr M z0 z) : zPw M z0 (fX19_arriveAll_125b N K2 K125 x0 x1 x3 x4 x5 x6 x7 x8 x9 z) := by
  unfold fX19_arriveAll_125b
  exact zw_d (fun a1 => zw_i (zw_i (wX19_arriveAll_204 (ztr rfl hM) hK2 h) (zw_c (wX19_drop (ztr rfl hM)  h) (fun _ z5 h1 => wX19_arriveAll_204 (ztr rfl hM) hK2 h1))) (zw_i (wX19_arriveAll_154 (ztr rfl hM) hK2 hK125 h) (zw_i (wX19_arriveAll_186 (ztr rfl hM) hK2 hK125 h) (zw_i (wX19_arriveAll_186 (ztr rfl hM) hK2 hK125 h) (wX19_arriveAll_154 (ztr rfl hM) hK2 hK125 h)))))
def mX19_arriveAll_125 : Nat := 0x13db7fef07f00000000000000000000088208840000000000001200000000000000003f0000000000000380000000000000000f00007f3fffe7fbff00000000000003e80000000001c22bf0000000000000000000000000000000000000000000000000000000000000000000000000000000000000000000000000000000000000000000000000000000000000000000000000000000000000000000000000000000000000000000000000
theorem wX19_arriveAll_125 {M : Nat} {z0 : St} {N : Nat} {K2 : Nat → Int32 → St → Option (Int32 × St)}(hM : mX19_arriveAll_125 &&& M = mX19_arriveAll_125)  (hK2 : ∀ a0 a1 a2, zFr M z0 a2 → zPw M z0 (K2 a0 a1 a2)) : ∀ (n : Nat) (y0 : Nat) (y1 : Int32) (y2 : Int32) (y3 : Int32) (y4 : Int32) (y5 : Int32) (y6 : Int32) (y7 : Option Nat) (y8 : Int32) (z : St), zFr M z0 z → zPw M z0 (fX19_arriveAll_125 N K2 n y0 y1 y2 y3 y4 y5 y6 y7 y8 z) := by
  intro n
  induction n with
  | zero => intro y0 y1 y2 y3 y4 y5 y6 y7 y8 z h; exact zw_n
  | succ n ih => intro y0 y1 y2 y3 y4 y5 y6 y7 y8 z h; exact wX19_arriveAll_125b (ztr rfl hM) hK2 (fun _ _ _ _ _ _ _ _ _ _ h => ih _ _ _ _ _ _ _ _ _ _ h) h
def mX19_arriveAll_2b : Nat := 0x13db7fef07f00000000000000000000088208840000000000001200000000000000003f0000000000000380000000000000000f00007f3fffe7fbff00000000000003e80000000001c22bf0000000000000000000000000000000000000000000000000000000000000000000000000000000000000000000000000000000000000000000000000000000000000000000000000000000000000000000000000000000000000000000000000
theorem wX19_arriveAll_2b {M : Nat} {N : Nat} {K2 : Nat → Int32 → St → Option (Int32 × St)} {x0 : Nat} {x1 : Int32} {z0 z : St} (hM : mX19_arriveAll_2b &&& M = mX19_arriveAll_2b)  (hK2 : ∀ a0 a1 a2, zFr M z0 a2 → zPw M z0 (K2 a0 a1 a2)) (h : zFr M z0 z) : zPw M z0 (fX19_arriveAll_2b N K2 x0 x1 z) := by
  unfold fX19_arriveAll_2b
  exact zw_i (zw_s h) (zw_k (zw_i (zw_k (zw_l (fun v5 => zw_k (zw_l (fun v7 => zw_k (zw_l (fun v9 => zw_k (zw_l (fun v11 => zw_k (zw_l (fun v13 => zw_k (zw_l (fun v15 => zw_c (wX19_takeFrame (ztr rfl hM)  h) (fun _ z17 h1 => zw_k (zw_l (fun y21 => wX19_arriveAll_125 (ztr rfl hM) hK2 _ _ _ _ _ _ _ _ _ _ _ h1)))))))))))))))) (zw_l (fun v22 => hK2 _ _ _ h))))
def mX19_arriveAll_2 : Nat := 0x13db7fef07f00000000000000000000088208840000000000001200000000000000003f0000000000000380000000000000000f00007f3fffe7fbff00000000000003e80000000001c22bf0000000000000000000000000000000000000000000000000000000000000000000000000000000000000000000000000000000000000000000000000000000000000000000000000000000000000000000000000000000000000000000000000
theorem wX19_arriveAll_2 {M : Nat} {z0 : St} {N : Nat}(hM : mX19_arriveAll_2 &&& M = mX19_arriveAll_2)  : ∀ (n : Nat) (y0 : Nat) (y1 : Int32) (z : St), zFr M z0 z → zPw M z0 (fX19_arriveAll_2 N n y0 y1 z) := by
  intro n
  induction n with
  | zero => intro y0 y1 z h; exact zw_n
  | succ n ih => intro y0 y1 z h; exact wX19_arriveAll_2b (ztr rfl hM)  (fun _ _ _ h => ih _ _ _ h) h
def mX19_arriveAll : Nat := 0x13db7fef07f00000000000000000000088208840000000000001200000000000000003f0000000000000380000000000000000f00007f3fffe7fbff00000000000003e80000000001c22bf0000000000000000000000000000000000000000000000000000000000000000000000000000000000000000000000000000000000000000000000000000000000000000000000000000000000000000000000000000000000000000000000000
theorem wX19_arriveAll {M : Nat} {N : Nat} {x0 : Nat} {z0 z : St} (hM : mX19_arriveAll &&& M = mX19_arriveAll)  (h : zFr M z0 z) : zPw M z0 (fX19_arriveAll N x0 z) := by
  unfold fX19_arriveAll
  exact wX19_arriveAll_2 (ztr rfl hM)  _ _ _ _ h
def mX19_neighbours_74 : Nat := 0x20000000000000000000000000000000000000000000000000000000000000000000000000000000000000000000800000000000000000000000000000000000000000000000000000000000000000000000000000000000000000000000000000000000000000000000000000000000000000000000000000000000000000000000000000000000000000000000000000
theorem wX19_neighbours_74 {M : Nat} {N : Nat} {K2 : Nat → Int32 → Int32 → St → Option (Int32 × St)} {x0 : Nat} {x1 : Int32} {x2 : Int32} {x3 : Option Nat} {s0 : Nat} {s1 : Int32} {z0 z : St} (hM : mX19_neighbours_74 &&& M = mX19_neighbours_74)  (hK2 : ∀ a0 a1 a2 a3, zFr M z0 a3 → zPw M z0 (K2 a0 a1 a2 a3)) (h : zFr M z0 z) : zPw M z0 (fX19_neighbours_74 N K2 x0 x1 x2 x3 s0 s1 z) := by
  unfold fX19_neighbours_74
  exact zw_q (zw_lI h (ztb hM rfl) (fun z1 h1 => zw_d (fun a3 => zw_l (fun y4 => zw_d (fun a5 => zw_q (zw_lI h1 (ztb hM rfl) (fun z6 h2 => zw_l (fun v8 => hK2 _ _ _ _ h2))))))))
def mX19_neighbours_69 : Nat := 0x20000000000000000000000000000000000000000000000000000000000000000000000000000000000000000000800000000000000000000000000000000000000000000000000000000000000000000000000000000000000000000000000000000000000000000000000000000000000000000000000000000000000000000000000000000000000000000000000000
theorem wX19_neighbours_69 {M : Nat} {N : Nat} {K2 : Nat → Int32 → Int32 → St → Option (Int32 × St)} {x0 : Nat} {x1 : Int32} {x2 : Int32} {x3 : Option Nat} {s0 : Nat} {z0 z : St} (hM : mX19_neighbours_69 &&& M = mX19_neighbours_69)  (hK2 : ∀ a0 a1 a2 a3, zFr M z0 a3 → zPw M z0 (K2 a0 a1 a2 a3)) (h : zFr M z0 z) : zPw M z0 (fX19_neighbours_69 N K2 x0 x1 x2 x3 s0 z) := by
  unfold fX19_neighbours_69
  exact wX19_neighbours_74 (ztr rfl hM) hK2 h
def mX19_neighbours_44 : Nat := 0x20000000000000000000000000000000000000000000000000000000000000000000000000000000000000000001800000000000000000000000000000000000000000000000000000000000000000000000000000000000000000000000000000000000000000000000000000000000000000000000000000000000000000000000000000000000000000000000000000
theorem wX19_neighbours_44 {M : Nat} {N : Nat} {K2 : Nat → Int32 → Int32 → St → Option (Int32 × St)} {x0 : Nat} {x1 : Int32} {x2 : Int32} {x3 : Option Nat} {s0 : Nat} {s1 : Int32} {z0 z : St} (hM : mX19_neighbours_44 &&& M = mX19_neighbours_44)  (hK2 : ∀ a0 a1 a2 a3, zFr M z0 a3 → zPw M z0 (K2 a0 a1 a2 a3)) (h : zFr M z0 z) : zPw M z0 (fX19_neighbours_44 N K2 x0 x1 x2 x3 s0 s1 z) := by
  unfold fX19_neighbours_44
  exact zw_q (zw_lI h (ztb hM rfl) (fun z1 h1 => zw_i (wX19_neighbours_69 (ztr rfl hM) hK2 h1) (zw_d (fun a4 => zw_l (fun y5 => zw_d (fun a6 => zw_i (wX19_neighbours_74 (ztr rfl hM) hK2 h1) (wX19_neighbours_69 (ztr rfl hM) hK2 h1)))))))
def mX19_neighbours_39 : Nat := 0x20000000000000000000000000000000000000000000000000000000000000000000000000000000000000000001800000000000000000000000000000000000000000000000000000000000000000000000000000000000000000000000000000000000000000000000000000000000000000000000000000000000000000000000000000000000000000000000000000
theorem wX19_neighbours_39 {M : Nat} {N : Nat} {K2 : Nat → Int32 → Int32 → St → Option (Int32 × St)} {x0 : Nat} {x1 : Int32} {x2 : Int32} {x3 : Option Nat} {s0 : Nat} {z0 z : St} (hM : mX19_neighbours_39 &&& M = mX19_neighbours_39)  (hK2 : ∀ a0 a1 a2 a3, zFr M z0 a3 → zPw M z0 (K2 a0 a1 a2 a3)) (h : zFr M z0 z) : zPw M z0 (fX19_neighbours_39 N K2 x0 x1 x2 x3 s0 z) := by
  unfold fX19_neighbours_39
  exact wX19_neighbours_44 (ztr rfl hM) hK2 h
def mX19_neighbours_202 : Nat := 0x0
theorem wX19_neighbours_202 {M : Nat} {N : Nat} {K96 : Nat → Int32 → Int32 → St → Option (Int32 × St)} {x0 : Nat} {x1 : Int32} {x2 : Int32} {z0 z : St} (hM : mX19_neighbours_202 &&& M = mX19_neighbours_202)  (hK96 : ∀ a0 a1 a2 a3, zFr M z0 a3 → zPw M z0 (K96 a0 a1 a2 a3)) (h : zFr M z0 z) : zPw M z0 (fX19_neighbours_202 N K96 x0 x1 x2 z) := by
  unfold fX19_neighbours_202
  exact hK96 _ _ _ _ h
def mX19_neighbours_150b : Nat := 0x200000000000000000000000000000000000000000000000000000000000000000000000000000000000000000000000000000000000000000000000000000000000001000000000000000000000000000000000000000000000000000000000000000000000000000000000000000000000000000000000000000000000000000000000000000000000000000000000000000000000000000000000000000000000000000000
theorem wX19_neighbours_150b {M : Nat} {N : Nat} {K96 : Nat → Int32 → Int32 → St → Option (Int32 × St)} {K150 : Nat → Int32 → Int32 → Nat → Int32 → St → Option (Int32 × St)} {x0 : Nat} {x1 : Int32} {x2 : Int32} {x3 : Nat} {x4 : Int32} {z0 z : St} (hM : mX19_neighbours_150b &&& M = mX19_neighbours_150b)  (hK96 : ∀ a0 a1 a2 a3, zFr M z0 a3 → zPw M z0 (K96 a0 a1 a2 a3)) (hK150 : ∀ a0 a1 a2 a3 a4 a5, zFr M z0 a5 → zPw M z0 (K150 a0 a1 a2 a3 a4 a5)) (h : zFr M z0 z) : zPw M z0 (fX19_neighbours_150b N K96 K150 x0 x1 x2 x3 x4 z) := by
  unfold fX19_neighbours_150b
  exact zw_i (zw_k (zw_lQ h (ztb hM rfl) (fun z3 h1 => zw_lI h1 (ztb hM rfl) (fun z4 h2 => wX19_neighbours_202 (ztr rfl hM) hK96 h2)))) (zw_k (zw_l (fun y6 => zw_k (zw_lQ h (ztb hM rfl) (fun z8 h3 => zw_l (fun v9 => hK150 _ _ _ _ _ _ h3))))))
def mX19_neighbours_150 : Nat := 0x200000000000000000000000000000000000000000000000000000000000000000000000000000000000000000000000000000000000000000000000000000000000001000000000000000000000000000000000000000000000000000000000000000000000000000000000000000000000000000000000000000000000000000000000000000000000000000000000000000000000000000000000000000000000000000000
theorem wX19_neighbours_150 {M : Nat} {z0 : St} {N : Nat} {K96 : Nat → Int32 → Int32 → St → Option (Int32 × St)}(hM : mX19_neighbours_150 &&& M = mX19_neighbours_150)  (hK96 : ∀ a0 a1 a2 a3, zFr M z0 a3 → zPw M z0 (K96 a0 a1 a2 a3)) : ∀ (n : Nat) (y0 : Nat) (y1 : Int32) (y2 : Int32) (y3 : Nat) (y4 : Int32) (z : St), zFr M z0 z → zPw M z0 (fX19_neighbours_150 N K96 n y0 y1 y2 y3 y4 z) := by
  intro n
  induction n with
  | zero => intro y0 y1 y2 y3 y4 z h; exact zw_n
  | succ n ih => intro y0 y1 y2 y3 y4 z h; exact wX19_neighbours_150b (ztr rfl hM) hK96 (fun _ _ _ _ _ _ h => ih _ _ _ _ _ _ h) h
def mX19_neighbours_137 : Nat := 0x200000000000000000000000000000000000000000000000000000000000000000000000000000000000000000000000000000000000000000000000000000000000001002000000000000000000000000000000000000000000000000000000000000000000000000000000000000000000000000000000000000000000000000000000000000000000000000000000000000000000000000000000000000000000000000000
theorem wX19_neighbours_137 {M : Nat} {N : Nat} {K96 : Nat → Int32 → Int32 → St → Option (Int32 × St)} {x0 : Nat} {x1 : Int32} {x2 : Int32} {x3 : Nat} {z0 z : St} (hM : mX19_neighbours_137 &&& M = mX19_neighbours_137)  (hK96 : ∀ a0 a1 a2 a3, zFr M z0 a3 → zPw M z0 (K96 a0 a1 a2 a3)) (h : zFr M z0 z) : zPw M z0 (fX19_neighbours_137 N K96 x0 x1 x2 x3 z) := by
  unfold fX19_neighbours_137
  exact zw_lI h (ztb hM rfl) (fun z1 h1 => wX19_neighbours_150 (ztr rfl hM) hK96 _ _ _ _ _ _ _ h1)
def mX19_neighbours_96b : Nat := 0x200000000000000000000000000000000000000000000000000000000000000000000000000000000000000000000000000000000000000000000000000000000000001002000000000000000000000000000000000000000000000000000000000000000000000000000000000000000000000000000000000000000000000000000000000000000000000000000000000000000000000000000000000000000000000000000
theorem wX19_neighbours_96b {M : Nat} {N : Nat} {K96 : Nat → Int32 → Int32 → St → Option (Int32 × St)} {x0 : Nat} {x1 : Int32} {x2 : Int32} {z0 z : St} (hM : mX19_neighbours_96b &&& M = mX19_neighbours_96b)  (hK96 : ∀ a0 a1 a2 a3, zFr M z0 a3 → zPw M z0 (K96 a0 a1 a2 a3)) (h : zFr M z0 z) : zPw M z0 (fX19_neighbours_96b N K96 x0 x1 x2 z) := by
  unfold fX19_neighbours_96b
  exact zw_i (zw_s h) (zw_k (zw_l (fun y3 => zw_d (fun a4 => zw_k (zw_l (fun y6 => zw_d (fun a7 => zw_i (wX19_neighbours_137 (ztr rfl hM) hK96 h) (zw_i (zw_l (fun v10 => wX19_neighbours_202 (ztr rfl hM) hK96 h)) (wX19_neighbours_137 (ztr rfl hM) hK96 h)))))))))
def mX19_neighbours_96 : Nat := 0x200000000000000000000000000000000000000000000000000000000000000000000000000000000000000000000000000000000000000000000000000000000000001002000000000000000000000000000000000000000000000000000000000000000000000000000000000000000000000000000000000000000000000000000000000000000000000000000000000000000000000000000000000000000000000000000
theorem wX19_neighbours_96 {M : Nat} {z0 : St} {N : Nat}(hM : mX19_neighbours_96 &&& M = mX19_neighbours_96)  : ∀ (n : Nat) (y0 : Nat) (y1 : Int32) (y2 : Int32) (z : St), zFr M z0 z → zPw M z0 (fX19_neighbours_96 N n y0 y1 y2 z) := by
  intro n
  induction n with
  | zero => intro y0 y1 y2 z h; exact zw_n
  | succ n ih => intro y0 y1 y2 z h; exact wX19_neighbours_96b (ztr rfl hM)  (fun _ _ _ _ h => ih _ _ _ _ h) h
def mX19_neighbours_2b : Nat := 0x200000000000000000000000000000000000000000020000000000000000000000000000000000000000000000000000000000000000000000000000000000000000001802000000000000000000000000000000000000000000000000000000000000000000000000000000000000000000000000000000000000000000000000000000000000000000000000000000000000000000000000000000000000000000000000000
theorem wX19_neighbours_2b {M : Nat} {N : Nat} {K2 : Nat → Int32 → Int32 → St → Option (Int32 × St)} {x0 : Nat} {x1 : Int32} {x2 : Int32} {z0 z : St} (hM : mX19_neighbours_2b &&& M = mX19_neighbours_2b)  (hK2 : ∀ a0 a1 a2 a3, zFr M z0 a3 → zPw M z0 (K2 a0 a1 a2 a3)) (h : zFr M z0 z) : zPw M z0 (fX19_neighbours_2b N K2 x0 x1 x2 z) := by
  unfold fX19_neighbours_2b
  exact zw_i (wX19_neighbours_96 (ztr rfl hM)  _ _ _ _ _ h) (zw_k (zw_l (fun y3 => zw_i (wX19_neighbours_39 (ztr rfl hM) hK2 h) (zw_d (fun a5 => zw_l (fun y6 => zw_d (fun a7 => zw_i (wX19_neighbours_44 (ztr rfl hM) hK2 h) (wX19_neighbours_39 (ztr rfl hM) hK2 h))))))))
def mX19_neighbours_2 : Nat := 0x200000000000000000000000000000000000000000020000000000000000000000000000000000000000000000000000000000000000000000000000000000000000001802000000000000000000000000000000000000000000000000000000000000000000000000000000000000000000000000000000000000000000000000000000000000000000000000000000000000000000000000000000000000000000000000000
theorem wX19_neighbours_2 {M : Nat} {z0 : St} {N : Nat}(hM : mX19_neighbours_2 &&& M = mX19_neighbours_2)  : ∀ (n : Nat) (y0 : Nat) (y1 : Int32) (y2 : Int32) (z : St), zFr M z0 z → zPw M z0 (fX19_neighbours_2 N n y0 y1 y2 z) := by
  intro n
  induction n with
  | zero => intro y0 y1 y2 z h; exact zw_n
  | succ n ih => intro y0 y1 y2 z h; exact wX19_neighbours_2b (ztr rfl hM)  (fun _ _ _ _ h => ih _ _ _ _ h) h
def mX19_neighbours : Nat := 0x200000000000000000000000000000000000000000020000000000000000000000000000000000000000000000000000000000000000000000000000000000000000001802000000000000000000000000000000000000000000000000000000000000000000000000000000000000000000000000000000000000000000000000000000000000000000000000000000000000000000000000000000000000000000000000000
theorem wX19_neighbours {M : Nat} {N : Nat} {x0 : Nat} {x1 : Int32} {z0 z : St} (hM : mX19_neighbours &&& M = mX19_neighbours)  (h : zFr M z0 z) : zPw M z0 (fX19_neighbours N x0 x1 z) := by
  unfold fX19_neighbours
  exact wX19_neighbours_2 (ztr rfl hM)  _ _ _ _ _ h
def mX19_base_85 : Nat := 0x0
theorem wX19_base_85 {M : Nat} {N : Nat} {K2 : Nat → Nat → Int32 → St → Option (Int32 × St)} {x0 : Nat} {x1 : Nat} {x2 : Int32} {z0 z : St} (hM : mX19_base_85 &&& M = mX19_base_85)  (hK2 : ∀ a0 a1 a2 a3, zFr M z0 a3 → zPw M z0 (K2 a0 a1 a2 a3)) (h : zFr M z0 z) : zPw M z0 (fX19_base_85 N K2 x0 x1 x2 z) := by
  unfold fX19_base_85
  exact zw_l (fun v1 => hK2 _ _ _ _ h)
def mX19_base_59b : Nat := 0x400000000000000000000000000000000000000000000000000000000000000000000000000000000000000000000000000000000000000000000000000000000000000000000000000000000000000000000000000000000000000000000000000000000000000000000000000000000000000000000000000000000000000000000000000000000000000000000000000000000000000000000000000000000000000000000000
theorem wX19_base_59b {M : Nat} {N : Nat} {K2 : Nat → Nat → Int32 → St → Option (Int32 × St)} {K59 : Nat → Nat → Int32 → Int32 → St → Option (Int32 × St)} {x0 : Nat} {x1 : Nat} {x2 : Int32} {x3 : Int32} {z0 z : St} (hM : mX19_base_59b &&& M = mX19_base_59b)  (hK2 : ∀ a0 a1 a2 a3, zFr M z0 a3 → zPw M z0 (K2 a0 a1 a2 a3)) (hK59 : ∀ a0 a1 a2 a3 a4, zFr M z0 a4 → zPw M z0 (K59 a0 a1 a2 a3 a4)) (h : zFr M z0 z) : zPw M z0 (fX19_base_59b N K2 K59 x0 x1 x2 x3 z) := by
  unfold fX19_base_59b
  exact zw_i (wX19_base_85 (ztr rfl hM) hK2 h) (zw_k (zw_l (fun y3 => zw_d (fun a4 => zw_k (zw_lA h (ztb hM rfl) (fun z6 h1 => zw_l (fun v7 => hK59 _ _ _ _ _ h1)))))))
def mX19_base_59 : Nat := 0x400000000000000000000000000000000000000000000000000000000000000000000000000000000000000000000000000000000000000000000000000000000000000000000000000000000000000000000000000000000000000000000000000000000000000000000000000000000000000000000000000000000000000000000000000000000000000000000000000000000000000000000000000000000000000000000000
theorem wX19_base_59 {M : Nat} {z0 : St} {N : Nat} {K2 : Nat → Nat → Int32 → St → Option (Int32 × St)}(hM : mX19_base_59 &&& M = mX19_base_59)  (hK2 : ∀ a0 a1 a2 a3, zFr M z0 a3 → zPw M z0 (K2 a0 a1 a2 a3)) : ∀ (n : Nat) (y0 : Nat) (y1 : Nat) (y2 : Int32) (y3 : Int32) (z : St), zFr M z0 z → zPw M z0 (fX19_base_59 N K2 n y0 y1 y2 y3 z) := by
  intro n
  induction n with
  | zero => intro y0 y1 y2 y3 z h; exact zw_n
  | succ n ih => intro y0 y1 y2 y3 z h; exact wX19_base_59b (ztr rfl hM) hK2 (fun _ _ _ _ _ h => ih _ _ _ _ _ h) h
def mX19_base_2b : Nat := 0x18000400400000000000000000000000008000000000000000000000000000000000000000000000000000000000000000000000000000000000000000000000000000000000000800000000000000000000000000000000000000000000000000000000000000000000000000000000000000000000000000000000000000000000000000000000000000000000000000000000000000000000000000000000000000000000000000000
theorem wX19_base_2b {M : Nat} {N : Nat} {K2 : Nat → Nat → Int32 → St → Option (Int32 × St)} {x0 : Nat} {x1 : Nat} {x2 : Int32} {z0 z : St} (hM : mX19_base_2b &&& M = mX19_base_2b)  (hK2 : ∀ a0 a1 a2 a3, zFr M z0 a3 → zPw M z0 (K2 a0 a1 a2 a3)) (h : zFr M z0 z) : zPw M z0 (fX19_base_2b N K2 x0 x1 x2 z) := by
  unfold fX19_base_2b
  exact zw_i (zw_s h) (zw_k (zw_i (wX19_base_85 (ztr rfl hM) hK2 h) (zw_k (zw_i (wX19_base_85 (ztr rfl hM) hK2 h) (zw_k (zw_c (wX19_dropAdvert (ztr rfl hM)  h) (fun _ z8 h1 => zw_k (zw_lA h1 (ztb hM rfl) (fun z12 h2 => zw_lI h2 (ztb hM rfl) (fun z13 h3 => wX19_base_59 (ztr rfl hM) hK2 _ _ _ _ _ _ h3))))))))))
def mX19_base_2 : Nat := 0x18000400400000000000000000000000008000000000000000000000000000000000000000000000000000000000000000000000000000000000000000000000000000000000000800000000000000000000000000000000000000000000000000000000000000000000000000000000000000000000000000000000000000000000000000000000000000000000000000000000000000000000000000000000000000000000000000000
theorem wX19_base_2 {M : Nat} {z0 : St} {N : Nat}(hM : mX19_base_2 &&& M = mX19_base_2)  : ∀ (n : Nat) (y0 : Nat) (y1 : Nat) (y2 : Int32) (z : St), zFr M z0 z → zPw M z0 (fX19_base_2 N n y0 y1 y2 z) := by
  intro n
  induction n with
  | zero => intro y0 y1 y2 z h; exact zw_n
  | succ n ih => intro y0 y1 y2 z h; exact wX19_base_2b (ztr rfl hM)  (fun _ _ _ _ h => ih _ _ _ _ h) h
def mX19_base : Nat := 0x18000400400000000000000000000000008000000000000000000000000000000000000000000000000000000000000000000000000000000000000000000000000000000000000800000000000000000000000000000000000000000000000000000000000000000000000000000000000000000000000000000000000000000000000000000000000000000000000000000000000000000000000000000000000000000000000000000
theorem wX19_base {M : Nat} {N : Nat} {x0 : Nat} {x1 : Nat} {z0 z : St} (hM : mX19_base &&& M = mX19_base)  (h : zFr M z0 z) : zPw M z0 (fX19_base N x0 x1 z) := by
  unfold fX19_base
  exact wX19_base_2 (ztr rfl hM)  _ _ _ _ _ h
def mX19_insert_75 : Nat := 0x4000000000000000000000000000000000000000000000000000000000000000000000000000000000000000000000000000000000000000000000000000000000000000000000000000000000000000000000000000000000000000000000000000000000000000000000000000000000000000000000000000000000000000000000000000000000000000000000000000000000000000000000000000000000000000000000000000
theorem wX19_insert_75 {M : Nat} {N : Nat} {K26 : Nat → Int32 → Int32 → Int32 → Int32 → Int32 → St → Option (Int32 × St)} {x0 : Nat} {x4 : Int32} {x5 : Int32} {x6 : Int32} {x7 : Int32} {x8 : Int32} {z0 z : St} (hM : mX19_insert_75 &&& M = mX19_insert_75)  (hK26 : ∀ a0 a1 a2 a3 a4 a5 a6, zFr M z0 a6 → zPw M z0 (K26 a0 a1 a2 a3 a4 a5 a6)) (h : zFr M z0 z) : zPw M z0 (fX19_insert_75 N K26 x0 x4 x5 x6 x7 x8 z) := by
  unfold fX19_insert_75
  exact zw_k (zw_k (zw_lA h (ztb hM rfl) (fun z3 h1 => zw_k (zw_k (zw_lA h1 (ztb hM rfl) (fun z6 h2 => zw_k (zw_k (zw_lA h2 (ztb hM rfl) (fun z9 h3 => zw_l (fun v10 => hK26 _ _ _ _ _ _ _ h3))))))))))
def mX19_insert_133 : Nat := 0x4000000000000000000000000000000000000000000000000000000000000000000000000000000000000000000000000000000000000000000000000000000000000000000000000000000000000000000000000000000000000000000000000000000000000000000000000000000000000000000000000000000000000000000000000000000000000000000000000000000000000000000000000000000000000000000000000000
theorem wX19_insert_133 {M : Nat} {N : Nat} {x0 : Nat} {x4 : Int32} {x5 : Int32} {x6 : Int32} {x7 : Int32} {z0 z : St} (hM : mX19_insert_133 &&& M = mX19_insert_133)  (h : zFr M z0 z) : zPw M z0 (fX19_insert_133 N x0 x4 x5 x6 x7 z) := by
  unfold fX19_insert_133
  exact zw_k (zw_lA h (ztb hM rfl) (fun z2 h1 => zw_k (zw_lA h1 (ztb hM rfl) (fun z4 h2 => zw_k (zw_lA h2 (ztb hM rfl) (fun z6 h3 => zw_s h3))))))
def mX19_insert_26b : Nat := 0x4000000000000000000000000000000000000000000000000000000000000000000000000000000000000000000000000000000000000000000000000000000000000000000000000000000000000000000000000000000000000000000000000000000000000000000000000000000000000000000000000000000000000000000000000000000000000000000000000000000000000000000000000000000000000000000000000000
theorem wX19_insert_26b {M : Nat} {N : Nat} {K26 : Nat → Int32 → Int32 → Int32 → Int32 → Int32 → St → Option (Int32 × St)} {x0 : Nat} {x4 : Int32} {x5 : Int32} {x6 : Int32} {x7 : Int32} {x8 : Int32} {z0 z : St} (hM : mX19_insert_26b &&& M = mX19_insert_26b)  (hK26 : ∀ a0 a1 a2 a3 a4 a5 a6, zFr M z0 a6 → zPw M z0 (K26 a0 a1 a2 a3 a4 a5 a6)) (h : zFr M z0 z) : zPw M z0 (fX19_insert_26b N K26 x0 x4 x5 x6 x7 x8 z) := by
  unfold fX19_insert_26b
  exact zw_i (wX19_insert_133 (ztr rfl hM)  h) (zw_k (zw_i (wX19_insert_75 (ztr rfl hM) hK26 h) (zw_k (zw_i (wX19_insert_133 (ztr rfl hM)  h) (zw_k (zw_i (wX19_insert_133 (ztr rfl hM)  h) (wX19_insert_75 (ztr rfl hM) hK26 h)))))))
def mX19_insert_26 : Nat := 0x4000000000000000000000000000000000000000000000000000000000000000000000000000000000000000000000000000000000000000000000000000000000000000000000000000000000000000000000000000000000000000000000000000000000000000000000000000000000000000000000000000000000000000000000000000000000000000000000000000000000000000000000000000000000000000000000000000
theorem wX19_insert_26 {M : Nat} {z0 : St} {N : Nat}(hM : mX19_insert_26 &&& M = mX19_insert_26)  : ∀ (n : Nat) (y0 : Nat) (y1 : Int32) (y2 : Int32) (y3 : Int32) (y4 : Int32) (y5 : Int32) (z : St), zFr M z0 z → zPw M z0 (fX19_insert_26 N n y0 y1 y2 y3 y4 y5 z) := by
  intro n
  induction n with
  | zero => intro y0 y1 y2 y3 y4 y5 z h; exact zw_n
  | succ n ih => intro y0 y1 y2 y3 y4 y5 z h; exact wX19_insert_26b (ztr rfl hM)  (fun _ _ _ _ _ _ _ h => ih _ _ _ _ _ _ _ h) h
def mX19_insert : Nat := 0x4000000000000000000000000000000000000000000000000000000000000000000000000000000000000000000000000000000000000000000000000000000000000000000000000000000000000000000000000000000000000000000000000000000000000000000000000000000000000000000000000000000000000000000000000000000000000000000000000000000000000000000000000000000000000000000000000000
theorem wX19_insert {M : Nat} {N : Nat} {x0 : Nat} {x1 : Int32} {x2 : Int32} {x3 : Int32} {x4 : Int32} {x5 : Int32} {x6 : Int32} {z0 z : St} (hM : mX19_insert &&& M = mX19_insert)  (h : zFr M z0 z) : zPw M z0 (fX19_insert N x0 x1 x2 x3 x4 x5 x6 z) := by
  unfold fX19_insert
  exact zw_l (fun v1 => zw_l (fun v2 => wX19_insert_26 (ztr rfl hM)  _ _ _ _ _ _ _ _ h))
def mX19_wouldTell_64 : Nat := 0x0
theorem wX19_wouldTell_64 {M : Nat} {N : Nat} {K14 : Nat → Nat → Int32 → Int32 → Int32 → St → Option (Int32 × St)} {x0 : Nat} {x1 : Nat} {x2 : Int32} {x3 : Int32} {x4 : Int32} {z0 z : St} (hM : mX19_wouldTell_64 &&& M = mX19_wouldTell_64)  (hK14 : ∀ a0 a1 a2 a3 a4 a5, zFr M z0 a5 → zPw M z0 (K14 a0 a1 a2 a3 a4 a5)) (h : zFr M z0 z) : zPw M z0 (fX19_wouldTell_64 N K14 x0 x1 x2 x3 x4 z) := by
  unfold fX19_wouldTell_64
  exact zw_l (fun v1 => hK14 _ _ _ _ _ _ h)
def mX19_wouldTell_151 : Nat := 0x0
theorem wX19_wouldTell_151 {M : Nat} {N : Nat} {K76 : Nat → Nat → Int32 → Int32 → Int32 → Int32 → St → Option (Int32 × St)} {x0 : Nat} {x1 : Nat} {x2 : Int32} {x3 : Int32} {x4 : Int32} {x5 : Int32} {z0 z : St} (hM : mX19_wouldTell_151 &&& M = mX19_wouldTell_151)  (hK76 : ∀ a0 a1 a2 a3 a4 a5 a6, zFr M z0 a6 → zPw M z0 (K76 a0 a1 a2 a3 a4 a5 a6)) (h : zFr M z0 z) : zPw M z0 (fX19_wouldTell_151 N K76 x0 x1 x2 x3 x4 x5 z) := by
  unfold fX19_wouldTell_151
  exact zw_l (fun v1 => hK76 _ _ _ _ _ _ _ h)
def mX19_wouldTell_76b : Nat := 0x4000000000000000000000000000000000000000000000000000000000000000000000000000000000000000000000000000000000000000000000000000000000000000000000000000000000000000000000000000000000000000000000000000000000000000000000000000000000000000000000000000000000000000000000000000000000000000000000000000000000000000000000000000000000000000000000000000
theorem wX19_wouldTell_76b {M : Nat} {N : Nat} {K76 : Nat → Nat → Int32 → Int32 → Int32 → Int32 → St → Option (Int32 × St)} {x0 : Nat} {x1 : Nat} {x2 : Int32} {x3 : Int32} {x4 : Int32} {x5 : Int32} {z0 z : St} (hM : mX19_wouldTell_76b &&& M = mX19_wouldTell_76b)  (hK76 : ∀ a0 a1 a2 a3 a4 a5 a6, zFr M z0 a6 → zPw M z0 (K76 a0 a1 a2 a3 a4 a5 a6)) (h : zFr M z0 z) : zPw M z0 (fX19_wouldTell_76b N K76 x0 x1 x2 x3 x4 x5 z) := by
  unfold fX19_wouldTell_76b
  exact zw_i (zw_k (zw_lA h (ztb hM rfl) (fun z3 h1 => zw_k (zw_lA h1 (ztb hM rfl) (fun z5 h2 => zw_s h2))))) (zw_k (zw_l (fun y7 => zw_d (fun a8 => zw_k (zw_l (fun y10 => zw_i (wX19_wouldTell_151 (ztr rfl hM) hK76 h) (zw_d (fun a12 => zw_i (wX19_wouldTell_151 (ztr rfl hM) hK76 h) (zw_l (fun y14 => zw_d (fun a15 => zw_c (wX19_insert (ztr rfl hM)  h) (fun _ z17 h3 => zw_l (fun v20 => wX19_wouldTell_151 (ztr rfl hM) hK76 h3)))))))))))))
def mX19_wouldTell_76 : Nat := 0x4000000000000000000000000000000000000000000000000000000000000000000000000000000000000000000000000000000000000000000000000000000000000000000000000000000000000000000000000000000000000000000000000000000000000000000000000000000000000000000000000000000000000000000000000000000000000000000000000000000000000000000000000000000000000000000000000000
theorem wX19_wouldTell_76 {M : Nat} {z0 : St} {N : Nat}(hM : mX19_wouldTell_76 &&& M = mX19_wouldTell_76)  : ∀ (n : Nat) (y0 : Nat) (y1 : Nat) (y2 : Int32) (y3 : Int32) (y4 : Int32) (y5 : Int32) (z : St), zFr M z0 z → zPw M z0 (fX19_wouldTell_76 N n y0 y1 y2 y3 y4 y5 z) := by
  intro n
  induction n with
  | zero => intro y0 y1 y2 y3 y4 y5 z h; exact zw_n
  | succ n ih => intro y0 y1 y2 y3 y4 y5 z h; exact wX19_wouldTell_76b (ztr rfl hM)  (fun _ _ _ _ _ _ _ h => ih _ _ _ _ _ _ _ h) h
def mX19_wouldTell_14b : Nat := 0x4000000000000000000000000000000000000000000000000000000000000000000000000000000000000000000000000000000000000000000000000000000000000000000000000000000000000000000000000000000000000000000000000000000000000000000000000000000000000000000000000000000000000000000000000000000000000000000000000000000000000000000000000000000000000000000000000000
theorem wX19_wouldTell_14b {M : Nat} {N : Nat} {K14 : Nat → Nat → Int32 → Int32 → Int32 → St → Option (Int32 × St)} {x0 : Nat} {x1 : Nat} {x2 : Int32} {x3 : Int32} {x4 : Int32} {z0 z : St} (hM : mX19_wouldTell_14b &&& M = mX19_wouldTell_14b)  (hK14 : ∀ a0 a1 a2 a3 a4 a5, zFr M z0 a5 → zPw M z0 (K14 a0 a1 a2 a3 a4 a5)) (h : zFr M z0 z) : zPw M z0 (fX19_wouldTell_14b N K14 x0 x1 x2 x3 x4 z) := by
  unfold fX19_wouldTell_14b
  exact zw_i (wX19_wouldTell_76 (ztr rfl hM)  _ _ _ _ _ _ _ _ h) (zw_k (zw_l (fun y3 => zw_d (fun a4 => zw_i (wX19_wouldTell_64 (ztr rfl hM) hK14 h) (zw_l (fun y6 => zw_d (fun a7 => zw_c (wX19_insert (ztr rfl hM)  h) (fun _ z9 h1 => zw_l (fun v12 => wX19_wouldTell_64 (ztr rfl hM) hK14 h1)))))))))
def mX19_wouldTell_14 : Nat := 0x4000000000000000000000000000000000000000000000000000000000000000000000000000000000000000000000000000000000000000000000000000000000000000000000000000000000000000000000000000000000000000000000000000000000000000000000000000000000000000000000000000000000000000000000000000000000000000000000000000000000000000000000000000000000000000000000000000
theorem wX19_wouldTell_14 {M : Nat} {z0 : St} {N : Nat}(hM : mX19_wouldTell_14 &&& M = mX19_wouldTell_14)  : ∀ (n : Nat) (y0 : Nat) (y1 : Nat) (y2 : Int32) (y3 : Int32) (y4 : Int32) (z : St), zFr M z0 z → zPw M z0 (fX19_wouldTell_14 N n y0 y1 y2 y3 y4 z) := by
  intro n
  induction n with
  | zero => intro y0 y1 y2 y3 y4 z h; exact zw_n
  | succ n ih => intro y0 y1 y2 y3 y4 z h; exact wX19_wouldTell_14b (ztr rfl hM)  (fun _ _ _ _ _ _ h => ih _ _ _ _ _ _ h) h
def mX19_wouldTell : Nat := 0xc000000000000000000000000000000008000000000000000000000000000000000000000000000000000000000000000000000000000000000000000000000000000000000000000000000000000000000000000000000000000000000000000000000000000000000000000000000000000000000000000000000000000000000000000000000000000000000000000000000000000000000000000000000000000000000000000000
theorem wX19_wouldTell {M : Nat} {N : Nat} {x0 : Nat} {x1 : Nat} {z0 z : St} (hM : mX19_wouldTell &&& M = mX19_wouldTell)  (h : zFr M z0 z) : zPw M z0 (fX19_wouldTell N x0 x1 z) := by
  unfold fX19_wouldTell
  exact zw_c (wX19_newAdvert (ztr rfl hM)  h) (fun r1 z2 h1 => wX19_wouldTell_14 (ztr rfl hM)  _ _ _ _ _ _ _ h1)
def mX19_ownAdvert_169 : Nat := 0x1c000c00c00000000000000000000000008000000000000000000000000000000000000000000000000000000000000000000000000000000000000000000000000000000000000850000000000000000000000000000000000000000000000000000000000000000000000000000000000000000000000000000000000000000000000000000000000000000000000000000000000000000000000000000000000000000000000000000
theorem wX19_ownAdvert_169 {M : Nat} {N : Nat} {x0 : Nat} {x1 : Nat} {x4 : Int32} {s0 : Nat} {s1 : Int32} {z0 z : St} (hM : mX19_ownAdvert_169 &&& M = mX19_ownAdvert_169)  (h : zFr M z0 z) : zPw M z0 (fX19_ownAdvert_169 N x0 x1 x4 s0 s1 z) := by
  unfold fX19_ownAdvert_169
  exact zw_lI h (ztb hM rfl) (fun z1 h1 => zw_k (zw_lA h1 (ztb hM rfl) (fun z3 h2 => zw_lI h2 (ztb hM rfl) (fun z4 h3 => zw_c (wX19_take (ztr rfl hM)  h3) (fun _ z6 h4 => zw_s h4)))))
def mX19_ownAdvert_146 : Nat := 0x1c000c00c00000000000000000000000008000000000000000000000000000000000000000000000000000000000000000000000000000000000000000000000000000000000000850000000000000000000000000000000000000000000000000000000000000000000000000000000000000000000000000000000000000000000000000000000000000000000000000000000000000000000000000000000000000000000000000000
theorem wX19_ownAdvert_146 {M : Nat} {N : Nat} {x0 : Nat} {x1 : Nat} {x4 : Int32} {z0 z : St} (hM : mX19_ownAdvert_146 &&& M = mX19_ownAdvert_146)  (h : zFr M z0 z) : zPw M z0 (fX19_ownAdvert_146 N x0 x1 x4 z) := by
  unfold fX19_ownAdvert_146
  exact zw_i (wX19_ownAdvert_169 (ztr rfl hM)  h) (wX19_ownAdvert_169 (ztr rfl hM)  h)
def mX19_ownAdvert_109 : Nat := 0x1c000c00c00000000000000000000000008000000000000000000000000000000000000000000000000000000000000000000000000000000000000000000000000000000000000850000000000000000000000000000000000000000000000000000000000000000000000000000000000000000000000000000000000000000000000000000000000000000000000000000000000000000000000000000000000000000000000000000
theorem wX19_ownAdvert_109 {M : Nat} {N : Nat} {x0 : Nat} {x1 : Nat} {x2 : Int32} {x3 : Int32} {x4 : Int32} {z0 z : St} (hM : mX19_ownAdvert_109 &&& M = mX19_ownAdvert_109)  (h : zFr M z0 z) : zPw M z0 (fX19_ownAdvert_109 N x0 x1 x2 x3 x4 z) := by
  unfold fX19_ownAdvert_109
  exact zw_i (wX19_ownAdvert_146 (ztr rfl hM)  h) (zw_c (wX19_tellAlike (ztr rfl hM)  h) (fun r2 z3 h1 => zw_i (wX19_ownAdvert_146 (ztr rfl hM)  h1) (zw_i (wX19_ownAdvert_146 (ztr rfl hM)  h1) (zw_i (wX19_ownAdvert_146 (ztr rfl hM)  h1) (zw_c (wX19_dropAdvert (ztr rfl hM)  h1) (fun _ z10 h2 => zw_s h2))))))
def mX19_ownAdvert_74 : Nat := 0x1c000c00c00000000000000000000000008000000000000000000000000000000000000000000000000000000000000000000000000000000000000000000000000000000000001850000000000000000000000000000000000000000000000000000000000000000000000000000000000000000000000000000000000000000000000000000000000000000000000000000000000000000000000000000000000000000000000000000
theorem wX19_ownAdvert_74 {M : Nat} {N : Nat} {x0 : Nat} {x1 : Nat} {x2 : Int32} {x3 : Int32} {z0 z : St} (hM : mX19_ownAdvert_74 &&& M = mX19_ownAdvert_74)  (h : zFr M z0 z) : zPw M z0 (fX19_ownAdvert_74 N x0 x1 x2 x3 z) := by
  unfold fX19_ownAdvert_74
  exact zw_lI h (ztb hM rfl) (fun z1 h1 => zw_c (wX19_wouldTell (ztr rfl hM)  h1) (fun r2 z3 h2 => zw_i (wX19_ownAdvert_109 (ztr rfl hM)  h2) (zw_c (wX19_ad (ztr rfl hM)  h2) (fun r7 z8 h3 => zw_k (zw_lA h3 (ztb hM rfl) (fun z12 h4 => wX19_ownAdvert_109 (ztr rfl hM)  h4))))))
def mX19_ownAdvert_45 : Nat := 0x1c000c00c00000000000000000000000008000000000000000000000000000000000000000000000000000000000000000000000000000000000000000000000000000000000001850000000000000000000000000000000000000000000000000000000000000000000000000000000000000000000000000000000000000000000000000000000000000000000000000000000000000000000000000000000000000000000000000000
theorem wX19_ownAdvert_45 {M : Nat} {N : Nat} {x0 : Nat} {x1 : Nat} {x2 : Int32} {s0 : Int32} {z0 z : St} (hM : mX19_ownAdvert_45 &&& M = mX19_ownAdvert_45)  (h : zFr M z0 z) : zPw M z0 (fX19_ownAdvert_45 N x0 x1 x2 s0 z) := by
  unfold fX19_ownAdvert_45
  exact zw_i (wX19_ownAdvert_74 (ztr rfl hM)  h) (zw_i (wX19_ownAdvert_74 (ztr rfl hM)  h) (zw_i (wX19_ownAdvert_74 (ztr rfl hM)  h) (zw_i (wX19_ownAdvert_74 (ztr rfl hM)  h) (zw_s h))))
def mX19_ownAdvert : Nat := 0x1c000c00c00000000000000000000000008000000000000000000000000000000000000000000000000000000000000000000000000000000000000000000000000000000000001850000000000000000000000000000000000000000000000000000000000000000000000000000000000000000000000000000000000000000000000000000000000000000000000000000000000000000000000000000000000000000000000000000
theorem wX19_ownAdvert {M : Nat} {N : Nat} {x0 : Nat} {x1 : Nat} {z0 z : St} (hM : mX19_ownAdvert &&& M = mX19_ownAdvert)  (h : zFr M z0 z) : zPw M z0 (fX19_ownAdvert N x0 x1 z) := by
  unfold fX19_ownAdvert
  exact zw_i (zw_k (zw_l (fun v3 => zw_i (wX19_ownAdvert_45 (ztr rfl hM)  h) (wX19_ownAdvert_45 (ztr rfl hM)  h)))) (zw_s h)
def mX19_greet_59 : Nat := 0x0
theorem wX19_greet_59 {M : Nat} {N : Nat} {K16 : Nat → Nat → Int32 → Option Nat → Int32 → Int32 → Int32 → St → Option (Int32 × St)} {x0 : Nat} {x1 : Nat} {x2 : Int32} {x3 : Option Nat} {x4 : Int32} {x5 : Int32} {x6 : Int32} {z0 z : St} (hM : mX19_greet_59 &&& M = mX19_greet_59)  (hK16 : ∀ a0 a1 a2 a3 a4 a5 a6 a7, zFr M z0 a7 → zPw M z0 (K16 a0 a1 a2 a3 a4 a5 a6 a7)) (h : zFr M z0 z) : zPw M z0 (fX19_greet_59 N K16 x0 x1 x2 x3 x4 x5 x6 z) := by
  unfold fX19_greet_59
  exact zw_l (fun v1 => hK16 _ _ _ _ _ _ _ _ h)
def mX19_greet_16b : Nat := 0x129b302000000000000000000000000088208840000000000000000000000000000000000000000000001800000000000000000000000000000000000000000000000000000000000000090000000000000000000000000000000000000000000000000000000000000000000000000000000000000000000000000000000000000000000000000000000000000000000000000000000000000000000000000000000000000000000000000
theorem wX19_greet_16b {M : Nat} {N : Nat} {K16 : Nat → Nat → Int32 → Option Nat → Int32 → Int32 → Int32 → St → Option (Int32 × St)} {x0 : Nat} {x1 : Nat} {x2 : Int32} {x3 : Option Nat} {x4 : Int32} {x5 : Int32} {x6 : Int32} {z0 z : St} (hM : mX19_greet_16b &&& M = mX19_greet_16b)  (hK16 : ∀ a0 a1 a2 a3 a4 a5 a6 a7, zFr M z0 a7 → zPw M z0 (K16 a0 a1 a2 a3 a4 a5 a6 a7)) (h : zFr M z0 z) : zPw M z0 (fX19_greet_16b N K16 x0 x1 x2 x3 x4 x5 x6 z) := by
  unfold fX19_greet_16b
  exact zw_i (zw_d (fun a2 => zw_c (wX18_address (ztr rfl hM)  h) (fun r3 z4 h1 => zw_c (wX19_make (ztr rfl hM)  h1) (fun r7 z8 h2 => zw_c (wX19_set (ztr rfl hM)  h2) (fun _ z12 h3 => zw_c (wX19_set (ztr rfl hM)  h3) (fun _ z16 h4 => zw_c (wX19_carry (ztr rfl hM)  h4) (fun _ z20 h5 => zw_c (wX19_drop (ztr rfl hM)  h5) (fun _ z24 h6 => zw_s h6)))))))) (zw_k (zw_l (fun y28 => zw_d (fun a29 => zw_i (wX19_greet_59 (ztr rfl hM) hK16 h) (zw_k (zw_l (fun y32 => zw_d (fun a33 => zw_l (fun v34 => zw_l (fun v35 => wX19_greet_59 (ztr rfl hM) hK16 h))))))))))
def mX19_greet_16 : Nat := 0x129b302000000000000000000000000088208840000000000000000000000000000000000000000000001800000000000000000000000000000000000000000000000000000000000000090000000000000000000000000000000000000000000000000000000000000000000000000000000000000000000000000000000000000000000000000000000000000000000000000000000000000000000000000000000000000000000000000
theorem wX19_greet_16 {M : Nat} {z0 : St} {N : Nat}(hM : mX19_greet_16 &&& M = mX19_greet_16)  : ∀ (n : Nat) (y0 : Nat) (y1 : Nat) (y2 : Int32) (y3 : Option Nat) (y4 : Int32) (y5 : Int32) (y6 : Int32) (z : St), zFr M z0 z → zPw M z0 (fX19_greet_16 N n y0 y1 y2 y3 y4 y5 y6 z) := by
  intro n
  induction n with
  | zero => intro y0 y1 y2 y3 y4 y5 y6 z h; exact zw_n
  | succ n ih => intro y0 y1 y2 y3 y4 y5 y6 z h; exact wX19_greet_16b (ztr rfl hM)  (fun _ _ _ _ _ _ _ _ h => ih _ _ _ _ _ _ _ _ h) h
def mX19_greet : Nat := 0x129b302000000000000000000000000088208840000000000000000000000000000000000000000000001800000000000000000000000000000000000000000000000000000000000000090000000000000000000000000000000000000000000000000000000000000000000000000000000000000000000000000000000000000000000000000000000000000000000000000000000000000000000000000000000000000000000000000
theorem wX19_greet {M : Nat} {N : Nat} {x0 : Nat} {x1 : Nat} {x2 : Int32} {z0 z : St} (hM : mX19_greet &&& M = mX19_greet)  (h : zFr M z0 z) : zPw M z0 (fX19_greet N x0 x1 x2 z) := by
  unfold fX19_greet
  exact zw_k (zw_l (fun y2 => wX19_greet_16 (ztr rfl hM)  _ _ _ _ _ _ _ _ _ h))
def mX19_tellAdvert : Nat := 0x129b3f2000000000000000000000000088208840000000000001200000000000000000000000000000001800000000000000000000000000000000000000000000000000000000000000090000000000000000000000000000000000000000000000000000000000000000000000000000000000000000000000000000000000000000000000000000000000000000000000000000000000000000000000000000000000000000000000000
theorem wX19_tellAdvert {M : Nat} {N : Nat} {x0 : Nat} {x1 : Nat} {x2 : Nat} {x3 : Int32} {z0 z : St} (hM : mX19_tellAdvert &&& M = mX19_tellAdvert)  (h : zFr M z0 z) : zPw M z0 (fX19_tellAdvert N x0 x1 x2 x3 z) := by
  unfold fX19_tellAdvert
  exact zw_k (zw_l (fun y2 => zw_k (zw_l (fun y4 => zw_d (fun a5 => zw_l (fun y6 => zw_d (fun a7 => zw_d (fun a8 => zw_c (wX19_stationOf (ztr rfl hM)  h) (fun r9 z10 h1 => zw_c (wX19_ad (ztr rfl hM)  h1) (fun r13 z14 h2 => zw_c (wX19_ad (ztr rfl hM)  h2) (fun r17 z18 h3 => zw_c (wX18_address (ztr rfl hM)  h3) (fun r21 z22 h4 => zw_l (fun y25 => zw_d (fun a26 => zw_k (zw_l (fun y28 => zw_d (fun a29 => zw_c (wX18_address (ztr rfl hM)  h4) (fun r30 z31 h5 => zw_c (wX19_make (ztr rfl hM)  h5) (fun r34 z35 h6 => zw_c (wX19_set (ztr rfl hM)  h6) (fun _ z39 h7 => zw_c (wX19_set (ztr rfl hM)  h7) (fun _ z43 h8 => zw_k (zw_k (zw_lA h8 (ztb hM rfl) (fun z48 h9 => zw_c (wX19_deliver (ztr rfl hM)  h9) (fun _ z50 h10 => zw_c (wX19_drop (ztr rfl hM)  h10) (fun _ z54 h11 => zw_s h11))))))))))))))))))))))))))
def mX19_routerSpeaks_38 : Nat := 0x0
theorem wX19_routerSpeaks_38 {M : Nat} {N : Nat} {K2 : Nat → Nat → Int32 → St → Option (Int32 × St)} {x0 : Nat} {x1 : Nat} {x2 : Int32} {z0 z : St} (hM : mX19_routerSpeaks_38 &&& M = mX19_routerSpeaks_38)  (hK2 : ∀ a0 a1 a2 a3, zFr M z0 a3 → zPw M z0 (K2 a0 a1 a2 a3)) (h : zFr M z0 z) : zPw M z0 (fX19_routerSpeaks_38 N K2 x0 x1 x2 z) := by
  unfold fX19_routerSpeaks_38
  exact zw_l (fun v1 => hK2 _ _ _ _ h)
def mX19_routerSpeaks_255 : Nat := 0x0
theorem wX19_routerSpeaks_255 {M : Nat} {N : Nat} {K155 : Nat → Nat → Int32 → St → Option (Int32 × St)} {K174 : Nat → Nat → Int32 → Option Nat → Int32 → St → Option (Int32 × St)} {x0 : Nat} {x1 : Nat} {x3 : Int32} {x4 : Nat} {x5 : Int32} {z0 z : St} (hM : mX19_routerSpeaks_255 &&& M = mX19_routerSpeaks_255)  (hK155 : ∀ a0 a1 a2 a3, zFr M z0 a3 → zPw M z0 (K155 a0 a1 a2 a3)) (hK174 : ∀ a0 a1 a2 a3 a4 a5, zFr M z0 a5 → zPw M z0 (K174 a0 a1 a2 a3 a4 a5)) (h : zFr M z0 z) : zPw M z0 (fX19_routerSpeaks_255 N K155 K174 x0 x1 x3 x4 x5 z) := by
  unfold fX19_routerSpeaks_255
  exact zw_l (fun v1 => hK174 _ _ _ _ _ _ h)
def mX19_routerSpeaks_261 : Nat := 0x0
theorem wX19_routerSpeaks_261 {M : Nat} {N : Nat} {K155 : Nat → Nat → Int32 → St → Option (Int32 × St)} {x0 : Nat} {x1 : Nat} {x3 : Int32} {z0 z : St} (hM : mX19_routerSpeaks_261 &&& M = mX19_routerSpeaks_261)  (hK155 : ∀ a0 a1 a2 a3, zFr M z0 a3 → zPw M z0 (K155 a0 a1 a2 a3)) (h : zFr M z0 z) : zPw M z0 (fX19_routerSpeaks_261 N K155 x0 x1 x3 z) := by
  unfold fX19_routerSpeaks_261
  exact zw_l (fun v1 => hK155 _ _ _ _ h)
def mX19_routerSpeaks_174b : Nat := 0x129b3f2800000000000000000000000088208840000000000001200000000000000000000000000000001800000000000000000000000000000000000000000000000000000000000000090000000000000000000000000000000000000000000000000000000000000000000000000000000000000000000000000000000000000000000000000000000000000000000000000000000000000000000000000000000000000000000000000
theorem wX19_routerSpeaks_174b {M : Nat} {N : Nat} {K155 : Nat → Nat → Int32 → St → Option (Int32 × St)} {K174 : Nat → Nat → Int32 → Option Nat → Int32 → St → Option (Int32 × St)} {x0 : Nat} {x1 : Nat} {x3 : Int32} {x4 : Option Nat} {x5 : Int32} {z0 z : St} (hM : mX19_routerSpeaks_174b &&& M = mX19_routerSpeaks_174b)  (hK155 : ∀ a0 a1 a2 a3, zFr M z0 a3 → zPw M z0 (K155 a0 a1 a2 a3)) (hK174 : ∀ a0 a1 a2 a3 a4 a5, zFr M z0 a5 → zPw M z0 (K174 a0 a1 a2 a3 a4 a5)) (h : zFr M z0 z) : zPw M z0 (fX19_routerSpeaks_174b N K155 K174 x0 x1 x3 x4 x5 z) := by
  unfold fX19_routerSpeaks_174b
  exact zw_d (fun a1 => zw_i (wX19_routerSpeaks_261 (ztr rfl hM) hK155 h) (zw_i (wX19_routerSpeaks_261 (ztr rfl hM) hK155 h) (zw_k (zw_i (wX19_routerSpeaks_255 (ztr rfl hM) hK155 hK174 h) (zw_k (zw_i (wX19_routerSpeaks_255 (ztr rfl hM) hK155 hK174 h) (zw_k (zw_i (wX19_routerSpeaks_255 (ztr rfl hM) hK155 hK174 h) (zw_k (zw_lA h (ztb hM rfl) (fun z11 h1 => zw_k (zw_c (wX19_tellAdvert (ztr rfl hM)  h1) (fun _ z14 h2 => wX19_routerSpeaks_255 (ztr rfl hM) hK155 hK174 h2)))))))))))))
def mX19_routerSpeaks_174 : Nat := 0x129b3f2800000000000000000000000088208840000000000001200000000000000000000000000000001800000000000000000000000000000000000000000000000000000000000000090000000000000000000000000000000000000000000000000000000000000000000000000000000000000000000000000000000000000000000000000000000000000000000000000000000000000000000000000000000000000000000000000
theorem wX19_routerSpeaks_174 {M : Nat} {z0 : St} {N : Nat} {K155 : Nat → Nat → Int32 → St → Option (Int32 × St)}(hM : mX19_routerSpeaks_174 &&& M = mX19_routerSpeaks_174)  (hK155 : ∀ a0 a1 a2 a3, zFr M z0 a3 → zPw M z0 (K155 a0 a1 a2 a3)) : ∀ (n : Nat) (y0 : Nat) (y1 : Nat) (y2 : Int32) (y3 : Option Nat) (y4 : Int32) (z : St), zFr M z0 z → zPw M z0 (fX19_routerSpeaks_174 N K155 n y0 y1 y2 y3 y4 z) := by
  intro n
  induction n with
  | zero => intro y0 y1 y2 y3 y4 z h; exact zw_n
  | succ n ih => intro y0 y1 y2 y3 y4 z h; exact wX19_routerSpeaks_174b (ztr rfl hM) hK155 (fun _ _ _ _ _ _ h => ih _ _ _ _ _ _ h) h
def mX19_routerSpeaks_155b : Nat := 0x129b3f2800000000000000000000000088208840000000000001200000000000000000000000000000001800000000000000000000000000000000000000000000000000000000000000090000000000000000000000000000000000000000000000000000000000000000000000000000000000000000000000000000000000000000000000000000000000000000000000000000000000000000000000000000000000000000000000000
theorem wX19_routerSpeaks_155b {M : Nat} {N : Nat} {K155 : Nat → Nat → Int32 → St → Option (Int32 × St)} {x0 : Nat} {x1 : Nat} {x3 : Int32} {z0 z : St} (hM : mX19_routerSpeaks_155b &&& M = mX19_routerSpeaks_155b)  (hK155 : ∀ a0 a1 a2 a3, zFr M z0 a3 → zPw M z0 (K155 a0 a1 a2 a3)) (h : zFr M z0 z) : zPw M z0 (fX19_routerSpeaks_155b N K155 x0 x1 x3 z) := by
  unfold fX19_routerSpeaks_155b
  exact zw_i (zw_s h) (zw_k (zw_l (fun y3 => wX19_routerSpeaks_174 (ztr rfl hM) hK155 _ _ _ _ _ _ _ h)))
def mX19_routerSpeaks_155 : Nat := 0x129b3f2800000000000000000000000088208840000000000001200000000000000000000000000000001800000000000000000000000000000000000000000000000000000000000000090000000000000000000000000000000000000000000000000000000000000000000000000000000000000000000000000000000000000000000000000000000000000000000000000000000000000000000000000000000000000000000000000
theorem wX19_routerSpeaks_155 {M : Nat} {z0 : St} {N : Nat}(hM : mX19_routerSpeaks_155 &&& M = mX19_routerSpeaks_155)  : ∀ (n : Nat) (y0 : Nat) (y1 : Nat) (y2 : Int32) (z : St), zFr M z0 z → zPw M z0 (fX19_routerSpeaks_155 N n y0 y1 y2 z) := by
  intro n
  induction n with
  | zero => intro y0 y1 y2 z h; exact zw_n
  | succ n ih => intro y0 y1 y2 z h; exact wX19_routerSpeaks_155b (ztr rfl hM)  (fun _ _ _ _ h => ih _ _ _ _ h) h
def mX19_routerSpeaks_51b : Nat := 0x129b3f2800000000000000000000000088208840000000000001200000000000000000000000000000001800000000000000000000000000000000000000000000000000000000000400090000000000000000000000000000000000000000000000000000000000000000000000000000000000000000000000000000000000000000000000000000000000000000000000000000000000000000000000000000000000000000000000000
theorem wX19_routerSpeaks_51b {M : Nat} {N : Nat} {K51 : Nat → Nat → Int32 → Int32 → St → Option (Int32 × St)} {x0 : Nat} {x1 : Nat} {x2 : Int32} {x3 : Int32} {z0 z : St} (hM : mX19_routerSpeaks_51b &&& M = mX19_routerSpeaks_51b)  (hK51 : ∀ a0 a1 a2 a3 a4, zFr M z0 a4 → zPw M z0 (K51 a0 a1 a2 a3 a4)) (h : zFr M z0 z) : zPw M z0 (fX19_routerSpeaks_51b N K51 x0 x1 x2 x3 z) := by
  unfold fX19_routerSpeaks_51b
  exact zw_i (zw_lI h (ztb hM rfl) (fun z2 h1 => wX19_routerSpeaks_155 (ztr rfl hM)  _ _ _ _ _ h1)) (zw_k (zw_k (zw_l (fun y5 => zw_d (fun a6 => zw_c (wX18_address (ztr rfl hM)  h) (fun r7 z8 h2 => zw_k (zw_c (wX19_make (ztr rfl hM)  h2) (fun r12 z13 h3 => zw_c (wX19_set (ztr rfl hM)  h3) (fun _ z17 h4 => zw_k (zw_c (wX19_set (ztr rfl hM)  h4) (fun _ z22 h5 => zw_k (zw_c (wX19_deliver (ztr rfl hM)  h5) (fun _ z27 h6 => zw_c (wX19_drop (ztr rfl hM)  h6) (fun _ z31 h7 => zw_l (fun v34 => hK51 _ _ _ _ _ h7)))))))))))))))
def mX19_routerSpeaks_51 : Nat := 0x129b3f2800000000000000000000000088208840000000000001200000000000000000000000000000001800000000000000000000000000000000000000000000000000000000000400090000000000000000000000000000000000000000000000000000000000000000000000000000000000000000000000000000000000000000000000000000000000000000000000000000000000000000000000000000000000000000000000000
theorem wX19_routerSpeaks_51 {M : Nat} {z0 : St} {N : Nat}(hM : mX19_routerSpeaks_51 &&& M = mX19_routerSpeaks_51)  : ∀ (n : Nat) (y0 : Nat) (y1 : Nat) (y2 : Int32) (y3 : Int32) (z : St), zFr M z0 z → zPw M z0 (fX19_routerSpeaks_51 N n y0 y1 y2 y3 z) := by
  intro n
  induction n with
  | zero => intro y0 y1 y2 y3 z h; exact zw_n
  | succ n ih => intro y0 y1 y2 y3 z h; exact wX19_routerSpeaks_51b (ztr rfl hM)  (fun _ _ _ _ _ h => ih _ _ _ _ _ h) h
def mX19_routerSpeaks_44 : Nat := 0x129b3f2800000000000000000000000088208840000000000001200000000000000000000000000000001800000000000000000000000000000000000000000000000000000000000400090000000000000000000000000000000000000000000000000000000000000000000000000000000000000000000000000000000000000000000000000000000000000000000000000000000000000000000000000000000000000000000000000
theorem wX19_routerSpeaks_44 {M : Nat} {N : Nat} {x0 : Nat} {x1 : Nat} {z0 z : St} (hM : mX19_routerSpeaks_44 &&& M = mX19_routerSpeaks_44)  (h : zFr M z0 z) : zPw M z0 (fX19_routerSpeaks_44 N x0 x1 z) := by
  unfold fX19_routerSpeaks_44
  exact zw_l (fun v1 => wX19_routerSpeaks_51 (ztr rfl hM)  _ _ _ _ _ _ h)
def mX19_routerSpeaks_2b : Nat := 0x129b3f2800000000000000000000000088208840000000000001200000000000000000000000000000001800000000000000000000000000000000000000000000000000000000000400090000000000000000000000000000000000000000000000000000000000000000000000000000000000000000000000000000000000000000000000000000000000000000000000000000000000000000000000000000000000000000000000000
theorem wX19_routerSpeaks_2b {M : Nat} {N : Nat} {K2 : Nat → Nat → Int32 → St → Option (Int32 × St)} {x0 : Nat} {x1 : Nat} {x2 : Int32} {z0 z : St} (hM : mX19_routerSpeaks_2b &&& M = mX19_routerSpeaks_2b)  (hK2 : ∀ a0 a1 a2 a3, zFr M z0 a3 → zPw M z0 (K2 a0 a1 a2 a3)) (h : zFr M z0 z) : zPw M z0 (fX19_routerSpeaks_2b N K2 x0 x1 x2 z) := by
  unfold fX19_routerSpeaks_2b
  exact zw_i (wX19_routerSpeaks_44 (ztr rfl hM)  h) (zw_i (wX19_routerSpeaks_44 (ztr rfl hM)  h) (zw_k (zw_l (fun y4 => zw_d (fun a5 => zw_i (wX19_routerSpeaks_38 (ztr rfl hM) hK2 h) (zw_c (wX19_greet (ztr rfl hM)  h) (fun _ z8 h1 => wX19_routerSpeaks_38 (ztr rfl hM) hK2 h1)))))))
def mX19_routerSpeaks_2 : Nat := 0x129b3f2800000000000000000000000088208840000000000001200000000000000000000000000000001800000000000000000000000000000000000000000000000000000000000400090000000000000000000000000000000000000000000000000000000000000000000000000000000000000000000000000000000000000000000000000000000000000000000000000000000000000000000000000000000000000000000000000
theorem wX19_routerSpeaks_2 {M : Nat} {z0 : St} {N : Nat}(hM : mX19_routerSpeaks_2 &&& M = mX19_routerSpeaks_2)  : ∀ (n : Nat) (y0 : Nat) (y1 : Nat) (y2 : Int32) (z : St), zFr M z0 z → zPw M z0 (fX19_routerSpeaks_2 N n y0 y1 y2 z) := by
  intro n
  induction n with
  | zero => intro y0 y1 y2 z h; exact zw_n
  | succ n ih => intro y0 y1 y2 z h; exact wX19_routerSpeaks_2b (ztr rfl hM)  (fun _ _ _ _ h => ih _ _ _ _ h) h
def mX19_routerSpeaks : Nat := 0x129b3f2800000000000000000000000088208840000000000001200000000000000000000000000000001800000000000000000000000000000000000000000000000000000000000400090000000000000000000000000000000000000000000000000000000000000000000000000000000000000000000000000000000000000000000000000000000000000000000000000000000000000000000000000000000000000000000000000
theorem wX19_routerSpeaks {M : Nat} {N : Nat} {x0 : Nat} {x1 : Nat} {z0 z : St} (hM : mX19_routerSpeaks &&& M = mX19_routerSpeaks)  (h : zFr M z0 z) : zPw M z0 (fX19_routerSpeaks N x0 x1 z) := by
  unfold fX19_routerSpeaks
  exact wX19_routerSpeaks_2 (ztr rfl hM)  _ _ _ _ _ h
def mX19_leastSums_32 : Nat := 0x4000000000000000000000000000000000000000000000000000000000000000000000000000000000000000000000000000000000000000000000000000000000000000000000000000000000000000000000000000000000000000000000000000000000000000000000000000000000000000000000000000000000000000000000000000000000000000000000000000000000000000000000000000000000000000000000000000000
theorem wX19_leastSums_32 {M : Nat} {N : Nat} {K2 : Nat → Nat → Int32 → St → Option (Int32 × St)} {x0 : Nat} {x1 : Nat} {x2 : Int32} {s0 : Nat} {s1 : Int32} {s2 : Int32} {z0 z : St} (hM : mX19_leastSums_32 &&& M = mX19_leastSums_32)  (hK2 : ∀ a0 a1 a2 a3, zFr M z0 a3 → zPw M z0 (K2 a0 a1 a2 a3)) (h : zFr M z0 z) : zPw M z0 (fX19_leastSums_32 N K2 x0 x1 x2 s0 s1 s2 z) := by
  unfold fX19_leastSums_32
  exact zw_k (zw_lA h (ztb hM rfl) (fun z2 h1 => zw_l (fun v3 => hK2 _ _ _ _ h1)))
def mX19_leastSums_159 : Nat := 0x0
theorem wX19_leastSums_159 {M : Nat} {N : Nat} {K41 : Nat → Nat → Int32 → St → Option (Int32 × St)} {K57 : Nat → Nat → Int32 → Int32 → Int32 → St → Option (Int32 × St)} {x0 : Nat} {x1 : Nat} {x2 : Int32} {x3 : Int32} {x4 : Int32} {z0 z : St} (hM : mX19_leastSums_159 &&& M = mX19_leastSums_159)  (hK41 : ∀ a0 a1 a2 a3, zFr M z0 a3 → zPw M z0 (K41 a0 a1 a2 a3)) (hK57 : ∀ a0 a1 a2 a3 a4 a5, zFr M z0 a5 → zPw M z0 (K57 a0 a1 a2 a3 a4 a5)) (h : zFr M z0 z) : zPw M z0 (fX19_leastSums_159 N K41 K57 x0 x1 x2 x3 x4 z) := by
  unfold fX19_leastSums_159
  exact zw_l (fun v1 => hK57 _ _ _ _ _ _ h)
def mX19_leastSums_165 : Nat := 0x0
theorem wX19_leastSums_165 {M : Nat} {N : Nat} {K41 : Nat → Nat → Int32 → St → Option (Int32 × St)} {x0 : Nat} {x1 : Nat} {x2 : Int32} {z0 z : St} (hM : mX19_leastSums_165 &&& M = mX19_leastSums_165)  (hK41 : ∀ a0 a1 a2 a3, zFr M z0 a3 → zPw M z0 (K41 a0 a1 a2 a3)) (h : zFr M z0 z) : zPw M z0 (fX19_leastSums_165 N K41 x0 x1 x2 z) := by
  unfold fX19_leastSums_165
  exact zw_l (fun v1 => hK41 _ _ _ _ h)
def mX19_leastSums_57b : Nat := 0x4000000000000000000000000000000000000000000000000000000000000000000000000000000000000000000000000000000000000000000000000000000000000000000000000000000000000000000000000000000000000000000000000000000000000000000000000000000000000000000000000000000000000000000000000000000000000000000000000000000000000000000000000000000000000000000000000000000
theorem wX19_leastSums_57b {M : Nat} {N : Nat} {K41 : Nat → Nat → Int32 → St → Option (Int32 × St)} {K57 : Nat → Nat → Int32 → Int32 → Int32 → St → Option (Int32 × St)} {x0 : Nat} {x1 : Nat} {x2 : Int32} {x3 : Int32} {x4 : Int32} {z0 z : St} (hM : mX19_leastSums_57b &&& M = mX19_leastSums_57b)  (hK41 : ∀ a0 a1 a2 a3, zFr M z0 a3 → zPw M z0 (K41 a0 a1 a2 a3)) (hK57 : ∀ a0 a1 a2 a3 a4 a5, zFr M z0 a5 → zPw M z0 (K57 a0 a1 a2 a3 a4 a5)) (h : zFr M z0 z) : zPw M z0 (fX19_leastSums_57b N K41 K57 x0 x1 x2 x3 x4 z) := by
  unfold fX19_leastSums_57b
  exact zw_i (wX19_leastSums_165 (ztr rfl hM) hK41 h) (zw_c (wX19_ad (ztr rfl hM)  h) (fun r2 z3 h1 => zw_i (wX19_leastSums_165 (ztr rfl hM) hK41 h1) (zw_c (wX19_friendRow (ztr rfl hM)  h1) (fun r7 z8 h2 => zw_c (wX19_friendRow (ztr rfl hM)  h2) (fun r11 z12 h3 => zw_k (zw_i (wX19_leastSums_159 (ztr rfl hM) hK41 hK57 h3) (zw_k (zw_c (wX19_friendRow (ztr rfl hM)  h3) (fun r18 z19 h4 => zw_c (wX19_costTo (ztr rfl hM)  h4) (fun r22 z23 h5 => zw_i (wX19_leastSums_159 (ztr rfl hM) hK41 hK57 h5) (zw_k (zw_i (wX19_leastSums_159 (ztr rfl hM) hK41 hK57 h5) (zw_k (zw_lA h5 (ztb hM rfl) (fun z30 h6 => wX19_leastSums_159 (ztr rfl hM) hK41 hK57 h6)))))))))))))))
def mX19_leastSums_57 : Nat := 0x4000000000000000000000000000000000000000000000000000000000000000000000000000000000000000000000000000000000000000000000000000000000000000000000000000000000000000000000000000000000000000000000000000000000000000000000000000000000000000000000000000000000000000000000000000000000000000000000000000000000000000000000000000000000000000000000000000000
theorem wX19_leastSums_57 {M : Nat} {z0 : St} {N : Nat} {K41 : Nat → Nat → Int32 → St → Option (Int32 × St)}(hM : mX19_leastSums_57 &&& M = mX19_leastSums_57)  (hK41 : ∀ a0 a1 a2 a3, zFr M z0 a3 → zPw M z0 (K41 a0 a1 a2 a3)) : ∀ (n : Nat) (y0 : Nat) (y1 : Nat) (y2 : Int32) (y3 : Int32) (y4 : Int32) (z : St), zFr M z0 z → zPw M z0 (fX19_leastSums_57 N K41 n y0 y1 y2 y3 y4 z) := by
  intro n
  induction n with
  | zero => intro y0 y1 y2 y3 y4 z h; exact zw_n
  | succ n ih => intro y0 y1 y2 y3 y4 z h; exact wX19_leastSums_57b (ztr rfl hM) hK41 (fun _ _ _ _ _ _ h => ih _ _ _ _ _ _ h) h
def mX19_leastSums_268 : Nat := 0x4000000000000000000000000000000000000000000000000000000000000000000000000000000000000000000000000000000000000000000000000000000000000000000000000000000000000000000000000000000000000000000000000000000000000000000000000000000000000000000000000000000000000000000000000000000000000000000000000000000000000000000000000000000000000000000000000000000
theorem wX19_leastSums_268 {M : Nat} {N : Nat} {K173 : Nat → Int32 → St → Option (Int32 × St)} {K181 : Nat → Int32 → Int32 → St → Option (Int32 × St)} {K190 : Nat → Int32 → Int32 → Int32 → St → Option (Int32 × St)} {x0 : Nat} {x2 : Int32} {x3 : Int32} {x4 : Int32} {s0 : Nat} {s1 : Int32} {s2 : Int32} {z0 z : St} (hM : mX19_leastSums_268 &&& M = mX19_leastSums_268)  (hK173 : ∀ a0 a1 a2, zFr M z0 a2 → zPw M z0 (K173 a0 a1 a2)) (hK181 : ∀ a0 a1 a2 a3, zFr M z0 a3 → zPw M z0 (K181 a0 a1 a2 a3)) (hK190 : ∀ a0 a1 a2 a3 a4, zFr M z0 a4 → zPw M z0 (K190 a0 a1 a2 a3 a4)) (h : zFr M z0 z) : zPw M z0 (fX19_leastSums_268 N K173 K181 K190 x0 x2 x3 x4 s0 s1 s2 z) := by
  unfold fX19_leastSums_268
  exact zw_k (zw_lA h (ztb hM rfl) (fun z2 h1 => zw_l (fun v3 => hK190 _ _ _ _ _ h1)))
def mX19_leastSums_190b : Nat := 0x4000000000000000000000000000000000000000000000000000000000000000000000000000000000000000000000000000000000000000000000000000000000000000000000000000000000000000000000000000000000000000000000000000000000000000000000000000000000000000000000000000000000000000000000000000000000000000000000000000000000000000000000000000000000000000000000000000000
theorem wX19_leastSums_190b {M : Nat} {N : Nat} {K173 : Nat → Int32 → St → Option (Int32 × St)} {K181 : Nat → Int32 → Int32 → St → Option (Int32 × St)} {K190 : Nat → Int32 → Int32 → Int32 → St → Option (Int32 × St)} {x0 : Nat} {x2 : Int32} {x3 : Int32} {x4 : Int32} {z0 z : St} (hM : mX19_leastSums_190b &&& M = mX19_leastSums_190b)  (hK173 : ∀ a0 a1 a2, zFr M z0 a2 → zPw M z0 (K173 a0 a1 a2)) (hK181 : ∀ a0 a1 a2 a3, zFr M z0 a3 → zPw M z0 (K181 a0 a1 a2 a3)) (hK190 : ∀ a0 a1 a2 a3 a4, zFr M z0 a4 → zPw M z0 (K190 a0 a1 a2 a3 a4)) (h : zFr M z0 z) : zPw M z0 (fX19_leastSums_190b N K173 K181 K190 x0 x2 x3 x4 z) := by
  unfold fX19_leastSums_190b
  exact zw_i (zw_l (fun v2 => hK181 _ _ _ _ h)) (zw_k (zw_k (zw_l (fun v5 => zw_k (zw_i (zw_k (wX19_leastSums_268 (ztr rfl hM) hK173 hK181 hK190 h)) (wX19_leastSums_268 (ztr rfl hM) hK173 hK181 hK190 h))))))
def mX19_leastSums_190 : Nat := 0x4000000000000000000000000000000000000000000000000000000000000000000000000000000000000000000000000000000000000000000000000000000000000000000000000000000000000000000000000000000000000000000000000000000000000000000000000000000000000000000000000000000000000000000000000000000000000000000000000000000000000000000000000000000000000000000000000000000
theorem wX19_leastSums_190 {M : Nat} {z0 : St} {N : Nat} {K173 : Nat → Int32 → St → Option (Int32 × St)} {K181 : Nat → Int32 → Int32 → St → Option (Int32 × St)}(hM : mX19_leastSums_190 &&& M = mX19_leastSums_190)  (hK173 : ∀ a0 a1 a2, zFr M z0 a2 → zPw M z0 (K173 a0 a1 a2)) (hK181 : ∀ a0 a1 a2 a3, zFr M z0 a3 → zPw M z0 (K181 a0 a1 a2 a3)) : ∀ (n : Nat) (y0 : Nat) (y1 : Int32) (y2 : Int32) (y3 : Int32) (z : St), zFr M z0 z → zPw M z0 (fX19_leastSums_190 N K173 K181 n y0 y1 y2 y3 z) := by
  intro n
  induction n with
  | zero => intro y0 y1 y2 y3 z h; exact zw_n
  | succ n ih => intro y0 y1 y2 y3 z h; exact wX19_leastSums_190b (ztr rfl hM) hK173 hK181 (fun _ _ _ _ _ h => ih _ _ _ _ _ h) h
def mX19_leastSums_181b : Nat := 0x4000000000000000000000000000000000000000000000000000000000000000000000000000000000000000000000000000000000000000000000000000000000000000000000000000000000000000000000000000000000000000000000000000000000000000000000000000000000000000000000000000000000000000000000000000000000000000000000000000000000000000000000000000000000000000000000000000000
theorem wX19_leastSums_181b {M : Nat} {N : Nat} {K173 : Nat → Int32 → St → Option (Int32 × St)} {K181 : Nat → Int32 → Int32 → St → Option (Int32 × St)} {x0 : Nat} {x2 : Int32} {x3 : Int32} {z0 z : St} (hM : mX19_leastSums_181b &&& M = mX19_leastSums_181b)  (hK173 : ∀ a0 a1 a2, zFr M z0 a2 → zPw M z0 (K173 a0 a1 a2)) (hK181 : ∀ a0 a1 a2 a3, zFr M z0 a3 → zPw M z0 (K181 a0 a1 a2 a3)) (h : zFr M z0 z) : zPw M z0 (fX19_leastSums_181b N K173 K181 x0 x2 x3 z) := by
  unfold fX19_leastSums_181b
  exact zw_i (zw_l (fun v2 => hK173 _ _ _ h)) (wX19_leastSums_190 (ztr rfl hM) hK173 hK181 _ _ _ _ _ _ h)
def mX19_leastSums_181 : Nat := 0x4000000000000000000000000000000000000000000000000000000000000000000000000000000000000000000000000000000000000000000000000000000000000000000000000000000000000000000000000000000000000000000000000000000000000000000000000000000000000000000000000000000000000000000000000000000000000000000000000000000000000000000000000000000000000000000000000000000
theorem wX19_leastSums_181 {M : Nat} {z0 : St} {N : Nat} {K173 : Nat → Int32 → St → Option (Int32 × St)}(hM : mX19_leastSums_181 &&& M = mX19_leastSums_181)  (hK173 : ∀ a0 a1 a2, zFr M z0 a2 → zPw M z0 (K173 a0 a1 a2)) : ∀ (n : Nat) (y0 : Nat) (y1 : Int32) (y2 : Int32) (z : St), zFr M z0 z → zPw M z0 (fX19_leastSums_181 N K173 n y0 y1 y2 z) := by
  intro n
  induction n with
  | zero => intro y0 y1 y2 z h; exact zw_n
  | succ n ih => intro y0 y1 y2 z h; exact wX19_leastSums_181b (ztr rfl hM) hK173 (fun _ _ _ _ h => ih _ _ _ _ h) h
def mX19_leastSums_173b : Nat := 0x4000000000000000000000000000000000000000000000000000000000000000000000000000000000000000000000000000000000000000000000000000000000000000000000000000000000000000000000000000000000000000000000000000000000000000000000000000000000000000000000000000000000000000000000000000000000000000000000000000000000000000000000000000000000000000000000000000000
theorem wX19_leastSums_173b {M : Nat} {N : Nat} {K173 : Nat → Int32 → St → Option (Int32 × St)} {x0 : Nat} {x2 : Int32} {z0 z : St} (hM : mX19_leastSums_173b &&& M = mX19_leastSums_173b)  (hK173 : ∀ a0 a1 a2, zFr M z0 a2 → zPw M z0 (K173 a0 a1 a2)) (h : zFr M z0 z) : zPw M z0 (fX19_leastSums_173b N K173 x0 x2 z) := by
  unfold fX19_leastSums_173b
  exact zw_i (zw_s h) (wX19_leastSums_181 (ztr rfl hM) hK173 _ _ _ _ _ h)
def mX19_leastSums_173 : Nat := 0x4000000000000000000000000000000000000000000000000000000000000000000000000000000000000000000000000000000000000000000000000000000000000000000000000000000000000000000000000000000000000000000000000000000000000000000000000000000000000000000000000000000000000000000000000000000000000000000000000000000000000000000000000000000000000000000000000000000
theorem wX19_leastSums_173 {M : Nat} {z0 : St} {N : Nat}(hM : mX19_leastSums_173 &&& M = mX19_leastSums_173)  : ∀ (n : Nat) (y0 : Nat) (y1 : Int32) (z : St), zFr M z0 z → zPw M z0 (fX19_leastSums_173 N n y0 y1 z) := by
  intro n
  induction n with
  | zero => intro y0 y1 z h; exact zw_n
  | succ n ih => intro y0 y1 z h; exact wX19_leastSums_173b (ztr rfl hM)  (fun _ _ _ h => ih _ _ _ h) h
def mX19_leastSums_41b : Nat := 0x4000000000000000000000000000000000000000000000000000000000000000000000000000000000000000000000000000000000000000000000000000000000000000000000000000000000000000000000000000000000000000000000000000000000000000000000000000000000000000000000000000000000000000000000000000000000000000000000000000000000000000000000000000000000000000000000000000000
theorem wX19_leastSums_41b {M : Nat} {N : Nat} {K41 : Nat → Nat → Int32 → St → Option (Int32 × St)} {x0 : Nat} {x1 : Nat} {x2 : Int32} {z0 z : St} (hM : mX19_leastSums_41b &&& M = mX19_leastSums_41b)  (hK41 : ∀ a0 a1 a2 a3, zFr M z0 a3 → zPw M z0 (K41 a0 a1 a2 a3)) (h : zFr M z0 z) : zPw M z0 (fX19_leastSums_41b N K41 x0 x1 x2 z) := by
  unfold fX19_leastSums_41b
  exact zw_i (wX19_leastSums_173 (ztr rfl hM)  _ _ _ _ h) (zw_k (zw_l (fun v3 => wX19_leastSums_57 (ztr rfl hM) hK41 _ _ _ _ _ _ _ h)))
def mX19_leastSums_41 : Nat := 0x4000000000000000000000000000000000000000000000000000000000000000000000000000000000000000000000000000000000000000000000000000000000000000000000000000000000000000000000000000000000000000000000000000000000000000000000000000000000000000000000000000000000000000000000000000000000000000000000000000000000000000000000000000000000000000000000000000000
theorem wX19_leastSums_41 {M : Nat} {z0 : St} {N : Nat}(hM : mX19_leastSums_41 &&& M = mX19_leastSums_41)  : ∀ (n : Nat) (y0 : Nat) (y1 : Nat) (y2 : Int32) (z : St), zFr M z0 z → zPw M z0 (fX19_leastSums_41 N n y0 y1 y2 z) := by
  intro n
  induction n with
  | zero => intro y0 y1 y2 z h; exact zw_n
  | succ n ih => intro y0 y1 y2 z h; exact wX19_leastSums_41b (ztr rfl hM)  (fun _ _ _ _ h => ih _ _ _ _ h) h
def mX19_leastSums_2b : Nat := 0x4000000000000000000000000000000000000000000000000000000000000000000000000000000000000000000000000000000000000000000000000000000000000000000000000000000000000000000000000000000000000000000000000000000000000000000000000000000000000000000000000000000000000000000000000000000000000000000000000000000000000000000000000000000000000000000000000000000
theorem wX19_leastSums_2b {M : Nat} {N : Nat} {K2 : Nat → Nat → Int32 → St → Option (Int32 × St)} {x0 : Nat} {x1 : Nat} {x2 : Int32} {z0 z : St} (hM : mX19_leastSums_2b &&& M = mX19_leastSums_2b)  (hK2 : ∀ a0 a1 a2 a3, zFr M z0 a3 → zPw M z0 (K2 a0 a1 a2 a3)) (h : zFr M z0 z) : zPw M z0 (fX19_leastSums_2b N K2 x0 x1 x2 z) := by
  unfold fX19_leastSums_2b
  exact zw_i (wX19_leastSums_41 (ztr rfl hM)  _ _ _ _ _ h) (zw_i (wX19_leastSums_32 (ztr rfl hM) hK2 h) (wX19_leastSums_32 (ztr rfl hM) hK2 h))
def mX19_leastSums_2 : Nat := 0x4000000000000000000000000000000000000000000000000000000000000000000000000000000000000000000000000000000000000000000000000000000000000000000000000000000000000000000000000000000000000000000000000000000000000000000000000000000000000000000000000000000000000000000000000000000000000000000000000000000000000000000000000000000000000000000000000000000
theorem wX19_leastSums_2 {M : Nat} {z0 : St} {N : Nat}(hM : mX19_leastSums_2 &&& M = mX19_leastSums_2)  : ∀ (n : Nat) (y0 : Nat) (y1 : Nat) (y2 : Int32) (z : St), zFr M z0 z → zPw M z0 (fX19_leastSums_2 N n y0 y1 y2 z) := by
  intro n
  induction n with
  | zero => intro y0 y1 y2 z h; exact zw_n
  | succ n ih => intro y0 y1 y2 z h; exact wX19_leastSums_2b (ztr rfl hM)  (fun _ _ _ _ h => ih _ _ _ _ h) h
def mX19_leastSums : Nat := 0x4000000000000000000000000000000000000000000000000000000000000000000000000000000000000000000000000000000000000000000000000000000000000000000000000000000000000000000000000000000000000000000000000000000000000000000000000000000000000000000000000000000000000000000000000000000000000000000000000000000000000000000000000000000000000000000000000000000
theorem wX19_leastSums {M : Nat} {N : Nat} {x0 : Nat} {x1 : Nat} {z0 z : St} (hM : mX19_leastSums &&& M = mX19_leastSums)  (h : zFr M z0 z) : zPw M z0 (fX19_leastSums N x0 x1 z) := by
  unfold fX19_leastSums
  exact wX19_leastSums_2 (ztr rfl hM)  _ _ _ _ _ h
def mX19_farWay_75 : Nat := 0x0
theorem wX19_farWay_75 {M : Nat} {N : Nat} {K7 : Nat → Nat → Int32 → Int32 → Int32 → St → Option (Int32 × St)} {x0 : Nat} {x1 : Nat} {x2 : Int32} {x3 : Int32} {x4 : Int32} {z0 z : St} (hM : mX19_farWay_75 &&& M = mX19_farWay_75)  (hK7 : ∀ a0 a1 a2 a3 a4 a5, zFr M z0 a5 → zPw M z0 (K7 a0 a1 a2 a3 a4 a5)) (h : zFr M z0 z) : zPw M z0 (fX19_farWay_75 N K7 x0 x1 x2 x3 x4 z) := by
  unfold fX19_farWay_75
  exact zw_l (fun v1 => hK7 _ _ _ _ _ _ h)
def mX19_farWay_311 : Nat := 0x0
theorem wX19_farWay_311 {M : Nat} {N : Nat} {K121 : Nat → Nat → Int32 → Int32 → Int32 → Int32 → St → Option (Int32 × St)} {K207 : Nat → Nat → Int32 → Int32 → Int32 → Int32 → Int32 → Int32 → Int32 → Int32 → St → Option (Int32 × St)} {x0 : Nat} {x1 : Nat} {x2 : Int32} {x3 : Int32} {x4 : Int32} {x5 : Int32} {x6 : Int32} {x7 : Int32} {x8 : Int32} {x9 : Int32} {z0 z : St} (hM : mX19_farWay_311 &&& M = mX19_farWay_311)  (hK121 : ∀ a0 a1 a2 a3 a4 a5 a6, zFr M z0 a6 → zPw M z0 (K121 a0 a1 a2 a3 a4 a5 a6)) (hK207 : ∀ a0 a1 a2 a3 a4 a5 a6 a7 a8 a9 a10, zFr M z0 a10 → zPw M z0 (K207 a0 a1 a2 a3 a4 a5 a6 a7 a8 a9 a10)) (h : zFr M z0 z) : zPw M z0 (fX19_farWay_311 N K121 K207 x0 x1 x2 x3 x4 x5 x6 x7 x8 x9 z) := by
  unfold fX19_farWay_311
  exact zw_l (fun v1 => hK207 _ _ _ _ _ _ _ _ _ _ _ h)
def mX19_farWay_317 : Nat := 0x0
theorem wX19_farWay_317 {M : Nat} {N : Nat} {K121 : Nat → Nat → Int32 → Int32 → Int32 → Int32 → St → Option (Int32 × St)} {x0 : Nat} {x1 : Nat} {x2 : Int32} {x3 : Int32} {x4 : Int32} {x5 : Int32} {z0 z : St} (hM : mX19_farWay_317 &&& M = mX19_farWay_317)  (hK121 : ∀ a0 a1 a2 a3 a4 a5 a6, zFr M z0 a6 → zPw M z0 (K121 a0 a1 a2 a3 a4 a5 a6)) (h : zFr M z0 z) : zPw M z0 (fX19_farWay_317 N K121 x0 x1 x2 x3 x4 x5 z) := by
  unfold fX19_farWay_317
  exact zw_l (fun v1 => hK121 _ _ _ _ _ _ _ h)
def mX19_farWay_207b : Nat := 0x38000000000000000000000000000000000000000000000000000000000000000000000000000000000000000000000000000000000000000000000000000000000000000000000000000000000000000000000000000000000000000000000000000000000000000000000000000000000000000000000000000000000000000000000000000000000000000000000000000000000000000000000000000000000000000000000
theorem wX19_farWay_207b {M : Nat} {N : Nat} {K121 : Nat → Nat → Int32 → Int32 → Int32 → Int32 → St → Option (Int32 × St)} {K207 : Nat → Nat → Int32 → Int32 → Int32 → Int32 → Int32 → Int32 → Int32 → Int32 → St → Option (Int32 × St)} {x0 : Nat} {x1 : Nat} {x2 : Int32} {x3 : Int32} {x4 : Int32} {x5 : Int32} {x6 : Int32} {x7 : Int32} {x8 : Int32} {x9 : Int32} {z0 z : St} (hM : mX19_farWay_207b &&& M = mX19_farWay_207b)  (hK121 : ∀ a0 a1 a2 a3 a4 a5 a6, zFr M z0 a6 → zPw M z0 (K121 a0 a1 a2 a3 a4 a5 a6)) (hK207 : ∀ a0 a1 a2 a3 a4 a5 a6 a7 a8 a9 a10, zFr M z0 a10 → zPw M z0 (K207 a0 a1 a2 a3 a4 a5 a6 a7 a8 a9 a10)) (h : zFr M z0 z) : zPw M z0 (fX19_farWay_207b N K121 K207 x0 x1 x2 x3 x4 x5 x6 x7 x8 x9 z) := by
  unfold fX19_farWay_207b
  exact zw_i (wX19_farWay_317 (ztr rfl hM) hK121 h) (zw_i (wX19_farWay_317 (ztr rfl hM) hK121 h) (zw_k (zw_i (wX19_farWay_317 (ztr rfl hM) hK121 h) (zw_k (zw_c (wX19_costOn (ztr rfl hM)  h) (fun r6 z7 h1 => zw_i (wX19_farWay_311 (ztr rfl hM) hK121 hK207 h1) (zw_i (wX19_farWay_311 (ztr rfl hM) hK121 hK207 h1) (zw_c (wX19_friendRow (ztr rfl hM)  h1) (fun r12 z13 h2 => zw_k (zw_i (wX19_farWay_311 (ztr rfl hM) hK121 hK207 h2) (zw_k (zw_lA h2 (ztb hM rfl) (fun z19 h3 => zw_k (zw_lA h3 (ztb hM rfl) (fun z21 h4 => zw_k (zw_lA h4 (ztb hM rfl) (fun z23 h5 => wX19_farWay_311 (ztr rfl hM) hK121 hK207 h5)))))))))))))))))
def mX19_farWay_207 : Nat := 0x38000000000000000000000000000000000000000000000000000000000000000000000000000000000000000000000000000000000000000000000000000000000000000000000000000000000000000000000000000000000000000000000000000000000000000000000000000000000000000000000000000000000000000000000000000000000000000000000000000000000000000000000000000000000000000000000
theorem wX19_farWay_207 {M : Nat} {z0 : St} {N : Nat} {K121 : Nat → Nat → Int32 → Int32 → Int32 → Int32 → St → Option (Int32 × St)}(hM : mX19_farWay_207 &&& M = mX19_farWay_207)  (hK121 : ∀ a0 a1 a2 a3 a4 a5 a6, zFr M z0 a6 → zPw M z0 (K121 a0 a1 a2 a3 a4 a5 a6)) : ∀ (n : Nat) (y0 : Nat) (y1 : Nat) (y2 : Int32) (y3 : Int32) (y4 : Int32) (y5 : Int32) (y6 : Int32) (y7 : Int32) (y8 : Int32) (y9 : Int32) (z : St), zFr M z0 z → zPw M z0 (fX19_farWay_207 N K121 n y0 y1 y2 y3 y4 y5 y6 y7 y8 y9 z) := by
  intro n
  induction n with
  | zero => intro y0 y1 y2 y3 y4 y5 y6 y7 y8 y9 z h; exact zw_n
  | succ n ih => intro y0 y1 y2 y3 y4 y5 y6 y7 y8 y9 z h; exact wX19_farWay_207b (ztr rfl hM) hK121 (fun _ _ _ _ _ _ _ _ _ _ _ h => ih _ _ _ _ _ _ _ _ _ _ _ h) h
def mX19_farWay_202 : Nat := 0x38000000000000000000000000000000000000000000000000000000000000000000000000000000000000000000000000000000000000000000000000000000000000000000000000000000000000000000000000000000000000000000000000000000000000000000000000000000000000000000000000000000000000000000000000000000000000000000000000000000000000000000000000000000000000000000000
theorem wX19_farWay_202 {M : Nat} {N : Nat} {K121 : Nat → Nat → Int32 → Int32 → Int32 → Int32 → St → Option (Int32 × St)} {x0 : Nat} {x1 : Nat} {x2 : Int32} {x3 : Int32} {x4 : Int32} {x5 : Int32} {x6 : Int32} {x7 : Int32} {s0 : Int32} {z0 z : St} (hM : mX19_farWay_202 &&& M = mX19_farWay_202)  (hK121 : ∀ a0 a1 a2 a3 a4 a5 a6, zFr M z0 a6 → zPw M z0 (K121 a0 a1 a2 a3 a4 a5 a6)) (h : zFr M z0 z) : zPw M z0 (fX19_farWay_202 N K121 x0 x1 x2 x3 x4 x5 x6 x7 s0 z) := by
  unfold fX19_farWay_202
  exact wX19_farWay_207 (ztr rfl hM) hK121 _ _ _ _ _ _ _ _ _ _ _ _ h
def mX19_farWay_201 : Nat := 0x38000000000000000000000000000000000000000000000000000000000000000000000000000000000000000000000000000000000000000000000000000000000000000000000000000000000000000000000000000000000000000000000000000000000000000000000000000000000000000000000000000000000000000000000000000000000000000000000000000000000000000000000000000000000000000000000
theorem wX19_farWay_201 {M : Nat} {N : Nat} {K121 : Nat → Nat → Int32 → Int32 → Int32 → Int32 → St → Option (Int32 × St)} {x0 : Nat} {x1 : Nat} {x2 : Int32} {x3 : Int32} {x4 : Int32} {x5 : Int32} {x6 : Int32} {x7 : Int32} {z0 z : St} (hM : mX19_farWay_201 &&& M = mX19_farWay_201)  (hK121 : ∀ a0 a1 a2 a3 a4 a5 a6, zFr M z0 a6 → zPw M z0 (K121 a0 a1 a2 a3 a4 a5 a6)) (h : zFr M z0 z) : zPw M z0 (fX19_farWay_201 N K121 x0 x1 x2 x3 x4 x5 x6 x7 z) := by
  unfold fX19_farWay_201
  exact wX19_farWay_202 (ztr rfl hM) hK121 h
def mX19_farWay_121b : Nat := 0x38000000000000000000000000000000000000000000000000000000000000000000000000000000000000000000000000000000000000000000000000000000000000000000000000000000000000000000000000000000000000000000000000000000000000000000000000000000000000000000000000000000000000000000000000000000000000000000000000000000000000000000000000000000000000000000000
theorem wX19_farWay_121b {M : Nat} {N : Nat} {K121 : Nat → Nat → Int32 → Int32 → Int32 → Int32 → St → Option (Int32 × St)} {x0 : Nat} {x1 : Nat} {x2 : Int32} {x3 : Int32} {x4 : Int32} {x5 : Int32} {z0 z : St} (hM : mX19_farWay_121b &&& M = mX19_farWay_121b)  (hK121 : ∀ a0 a1 a2 a3 a4 a5 a6, zFr M z0 a6 → zPw M z0 (K121 a0 a1 a2 a3 a4 a5 a6)) (h : zFr M z0 z) : zPw M z0 (fX19_farWay_121b N K121 x0 x1 x2 x3 x4 x5 z) := by
  unfold fX19_farWay_121b
  exact zw_c (wX19_ad (ztr rfl hM)  h) (fun r1 z2 h1 => zw_i (zw_s h1) (zw_k (zw_i (zw_s h1) (zw_c (wX19_friendRow (ztr rfl hM)  h1) (fun r8 z9 h2 => zw_c (wX19_friendRow (ztr rfl hM)  h2) (fun r12 z13 h3 => zw_k (zw_i (wX19_farWay_201 (ztr rfl hM) hK121 h3) (zw_k (zw_c (wX19_costTo (ztr rfl hM)  h3) (fun r19 z20 h4 => zw_i (wX19_farWay_201 (ztr rfl hM) hK121 h4) (wX19_farWay_202 (ztr rfl hM) hK121 h4)))))))))))
def mX19_farWay_121 : Nat := 0x38000000000000000000000000000000000000000000000000000000000000000000000000000000000000000000000000000000000000000000000000000000000000000000000000000000000000000000000000000000000000000000000000000000000000000000000000000000000000000000000000000000000000000000000000000000000000000000000000000000000000000000000000000000000000000000000
theorem wX19_farWay_121 {M : Nat} {z0 : St} {N : Nat}(hM : mX19_farWay_121 &&& M = mX19_farWay_121)  : ∀ (n : Nat) (y0 : Nat) (y1 : Nat) (y2 : Int32) (y3 : Int32) (y4 : Int32) (y5 : Int32) (z : St), zFr M z0 z → zPw M z0 (fX19_farWay_121 N n y0 y1 y2 y3 y4 y5 z) := by
  intro n
  induction n with
  | zero => intro y0 y1 y2 y3 y4 y5 z h; exact zw_n
  | succ n ih => intro y0 y1 y2 y3 y4 y5 z h; exact wX19_farWay_121b (ztr rfl hM)  (fun _ _ _ _ _ _ _ h => ih _ _ _ _ _ _ _ h) h
def mX19_farWay_7b : Nat := 0x38000000000000000000000000000000000000000000000000000000000000000000000000000000000000000000000000000000000000000000000000000000000000000000000000000000000000000000000000000000000000000000000000000000000000000000000000000000000000000000000000000000000000000000000000000000000000000000000000000000000000000000000000000000000000000000000
theorem wX19_farWay_7b {M : Nat} {N : Nat} {K7 : Nat → Nat → Int32 → Int32 → Int32 → St → Option (Int32 × St)} {x0 : Nat} {x1 : Nat} {x2 : Int32} {x3 : Int32} {x4 : Int32} {z0 z : St} (hM : mX19_farWay_7b &&& M = mX19_farWay_7b)  (hK7 : ∀ a0 a1 a2 a3 a4 a5, zFr M z0 a5 → zPw M z0 (K7 a0 a1 a2 a3 a4 a5)) (h : zFr M z0 z) : zPw M z0 (fX19_farWay_7b N K7 x0 x1 x2 x3 x4 z) := by
  unfold fX19_farWay_7b
  exact zw_i (zw_i (zw_s h) (zw_k (zw_c (wX19_costOn (ztr rfl hM)  h) (fun r4 z5 h1 => zw_i (zw_k (zw_l (fun v10 => wX19_farWay_121 (ztr rfl hM)  _ _ _ _ _ _ _ _ h1))) (zw_s h1))))) (zw_k (zw_c (wX19_costOn (ztr rfl hM)  h) (fun r12 z13 h2 => zw_i (wX19_farWay_75 (ztr rfl hM) hK7 h2) (zw_k (zw_i (wX19_farWay_75 (ztr rfl hM) hK7 h2) (zw_k (zw_l (fun v20 => wX19_farWay_75 (ztr rfl hM) hK7 h2))))))))
def mX19_farWay_7 : Nat := 0x38000000000000000000000000000000000000000000000000000000000000000000000000000000000000000000000000000000000000000000000000000000000000000000000000000000000000000000000000000000000000000000000000000000000000000000000000000000000000000000000000000000000000000000000000000000000000000000000000000000000000000000000000000000000000000000000
theorem wX19_farWay_7 {M : Nat} {z0 : St} {N : Nat}(hM : mX19_farWay_7 &&& M = mX19_farWay_7)  : ∀ (n : Nat) (y0 : Nat) (y1 : Nat) (y2 : Int32) (y3 : Int32) (y4 : Int32) (z : St), zFr M z0 z → zPw M z0 (fX19_farWay_7 N n y0 y1 y2 y3 y4 z) := by
  intro n
  induction n with
  | zero => intro y0 y1 y2 y3 y4 z h; exact zw_n
  | succ n ih => intro y0 y1 y2 y3 y4 z h; exact wX19_farWay_7b (ztr rfl hM)  (fun _ _ _ _ _ _ h => ih _ _ _ _ _ _ h) h
def mX19_farWay : Nat := 0x38000000000000000000000000000000000000000000000000000000000000000000000000000000000000000000000000000000000000000000000000000000000000000000000000000000000000000000000000000000000000000000000000000000000000000000000000000000000000000000000000000000000000000000000000000000000000000000000000000000000000000000000000000000000000000000000
theorem wX19_farWay {M : Nat} {N : Nat} {x0 : Nat} {x1 : Nat} {x2 : Int32} {z0 z : St} (hM : mX19_farWay &&& M = mX19_farWay)  (h : zFr M z0 z) : zPw M z0 (fX19_farWay N x0 x1 x2 z) := by
  unfold fX19_farWay
  exact wX19_farWay_7 (ztr rfl hM)  _ _ _ _ _ _ _ h
def mX19_ways_102 : Nat := 0x0
theorem wX19_ways_102 {M : Nat} {N : Nat} {K20 : Nat → Nat → Int32 → St → Option (Int32 × St)} {K52 : Nat → Nat → Int32 → Option Nat → Int32 → St → Option (Int32 × St)} {x0 : Nat} {x1 : Nat} {x2 : Int32} {x4 : Int32} {s0 : Option Nat} {z0 z : St} (hM : mX19_ways_102 &&& M = mX19_ways_102)  (hK20 : ∀ a0 a1 a2 a3, zFr M z0 a3 → zPw M z0 (K20 a0 a1 a2 a3)) (hK52 : ∀ a0 a1 a2 a3 a4 a5, zFr M z0 a5 → zPw M z0 (K52 a0 a1 a2 a3 a4 a5)) (h : zFr M z0 z) : zPw M z0 (fX19_ways_102 N K20 K52 x0 x1 x2 x4 s0 z) := by
  unfold fX19_ways_102
  exact zw_l (fun v1 => hK52 _ _ _ _ _ _ h)
def mX19_ways_101 : Nat := 0x0
theorem wX19_ways_101 {M : Nat} {N : Nat} {K20 : Nat → Nat → Int32 → St → Option (Int32 × St)} {K52 : Nat → Nat → Int32 → Option Nat → Int32 → St → Option (Int32 × St)} {x0 : Nat} {x1 : Nat} {x2 : Int32} {x3 : Option Nat} {x4 : Int32} {z0 z : St} (hM : mX19_ways_101 &&& M = mX19_ways_101)  (hK20 : ∀ a0 a1 a2 a3, zFr M z0 a3 → zPw M z0 (K20 a0 a1 a2 a3)) (hK52 : ∀ a0 a1 a2 a3 a4 a5, zFr M z0 a5 → zPw M z0 (K52 a0 a1 a2 a3 a4 a5)) (h : zFr M z0 z) : zPw M z0 (fX19_ways_101 N K20 K52 x0 x1 x2 x3 x4 z) := by
  unfold fX19_ways_101
  exact wX19_ways_102 (ztr rfl hM) hK20 hK52 h
def mX19_ways_149 : Nat := 0x0
theorem wX19_ways_149 {M : Nat} {N : Nat} {K20 : Nat → Nat → Int32 → St → Option (Int32 × St)} {x0 : Nat} {x1 : Nat} {x2 : Int32} {z0 z : St} (hM : mX19_ways_149 &&& M = mX19_ways_149)  (hK20 : ∀ a0 a1 a2 a3, zFr M z0 a3 → zPw M z0 (K20 a0 a1 a2 a3)) (h : zFr M z0 z) : zPw M z0 (fX19_ways_149 N K20 x0 x1 x2 z) := by
  unfold fX19_ways_149
  exact zw_l (fun v1 => hK20 _ _ _ _ h)
def mX19_ways_52b : Nat := 0x38000000000000000000000000000000000000000000000000000000000000000000000000000000000000000000000000000000000000000000000000000000000000000000000000000000000000000000000000000000000000000000000000000000000000000000000000000000000000000000000000000000000000000000000000000000000000000000000000000000000000000000000000000000000000000000000
theorem wX19_ways_52b {M : Nat} {N : Nat} {K20 : Nat → Nat → Int32 → St → Option (Int32 × St)} {K52 : Nat → Nat → Int32 → Option Nat → Int32 → St → Option (Int32 × St)} {x0 : Nat} {x1 : Nat} {x2 : Int32} {x3 : Option Nat} {x4 : Int32} {z0 z : St} (hM : mX19_ways_52b &&& M = mX19_ways_52b)  (hK20 : ∀ a0 a1 a2 a3, zFr M z0 a3 → zPw M z0 (K20 a0 a1 a2 a3)) (hK52 : ∀ a0 a1 a2 a3 a4 a5, zFr M z0 a5 → zPw M z0 (K52 a0 a1 a2 a3 a4 a5)) (h : zFr M z0 z) : zPw M z0 (fX19_ways_52b N K20 K52 x0 x1 x2 x3 x4 z) := by
  unfold fX19_ways_52b
  exact zw_i (zw_o (zw_c (wX19_farWay (ztr rfl hM)  h) (fun _ z5 h1 => wX19_ways_149 (ztr rfl hM) hK20 h1)) (fun a3 => zw_k (zw_lA h (ztb hM rfl) (fun z9 h2 => zw_k (zw_lA h2 (ztb hM rfl) (fun z11 h3 => zw_k (zw_lA h3 (ztb hM rfl) (fun z13 h4 => wX19_ways_149 (ztr rfl hM) hK20 h4)))))))) (zw_k (zw_l (fun y15 => zw_d (fun a16 => zw_l (fun y17 => zw_d (fun a18 => zw_i (wX19_ways_101 (ztr rfl hM) hK20 hK52 h) (zw_k (zw_l (fun y21 => zw_d (fun a22 => zw_i (wX19_ways_101 (ztr rfl hM) hK20 hK52 h) (zw_k (zw_l (fun y25 => wX19_ways_102 (ztr rfl hM) hK20 hK52 h)))))))))))))
def mX19_ways_52 : Nat := 0x38000000000000000000000000000000000000000000000000000000000000000000000000000000000000000000000000000000000000000000000000000000000000000000000000000000000000000000000000000000000000000000000000000000000000000000000000000000000000000000000000000000000000000000000000000000000000000000000000000000000000000000000000000000000000000000000
theorem wX19_ways_52 {M : Nat} {z0 : St} {N : Nat} {K20 : Nat → Nat → Int32 → St → Option (Int32 × St)}(hM : mX19_ways_52 &&& M = mX19_ways_52)  (hK20 : ∀ a0 a1 a2 a3, zFr M z0 a3 → zPw M z0 (K20 a0 a1 a2 a3)) : ∀ (n : Nat) (y0 : Nat) (y1 : Nat) (y2 : Int32) (y3 : Option Nat) (y4 : Int32) (z : St), zFr M z0 z → zPw M z0 (fX19_ways_52 N K20 n y0 y1 y2 y3 y4 z) := by
  intro n
  induction n with
  | zero => intro y0 y1 y2 y3 y4 z h; exact zw_n
  | succ n ih => intro y0 y1 y2 y3 y4 z h; exact wX19_ways_52b (ztr rfl hM) hK20 (fun _ _ _ _ _ _ h => ih _ _ _ _ _ _ h) h
def mX19_ways_20b : Nat := 0x38000000000000000000000000000000000000000000000000000000000000000000000000000000000000000000000000000000000000000000000000000000000000000000000000000000000000000000000000000000000000000000000000000000000000000000000000000000000000000000000000000000000000000000000000000000000000000000000000000000000000000000000000000000000000000000000
theorem wX19_ways_20b {M : Nat} {N : Nat} {K20 : Nat → Nat → Int32 → St → Option (Int32 × St)} {x0 : Nat} {x1 : Nat} {x2 : Int32} {z0 z : St} (hM : mX19_ways_20b &&& M = mX19_ways_20b)  (hK20 : ∀ a0 a1 a2 a3, zFr M z0 a3 → zPw M z0 (K20 a0 a1 a2 a3)) (h : zFr M z0 z) : zPw M z0 (fX19_ways_20b N K20 x0 x1 x2 z) := by
  unfold fX19_ways_20b
  exact zw_i (zw_s h) (zw_k (zw_lA h (ztb hM rfl) (fun z3 h1 => zw_k (zw_lA h1 (ztb hM rfl) (fun z5 h2 => zw_k (zw_lA h2 (ztb hM rfl) (fun z7 h3 => wX19_ways_52 (ztr rfl hM) hK20 _ _ _ _ _ _ _ h3)))))))
def mX19_ways_20 : Nat := 0x38000000000000000000000000000000000000000000000000000000000000000000000000000000000000000000000000000000000000000000000000000000000000000000000000000000000000000000000000000000000000000000000000000000000000000000000000000000000000000000000000000000000000000000000000000000000000000000000000000000000000000000000000000000000000000000000
theorem wX19_ways_20 {M : Nat} {z0 : St} {N : Nat}(hM : mX19_ways_20 &&& M = mX19_ways_20)  : ∀ (n : Nat) (y0 : Nat) (y1 : Nat) (y2 : Int32) (z : St), zFr M z0 z → zPw M z0 (fX19_ways_20 N n y0 y1 y2 z) := by
  intro n
  induction n with
  | zero => intro y0 y1 y2 z h; exact zw_n
  | succ n ih => intro y0 y1 y2 z h; exact wX19_ways_20b (ztr rfl hM)  (fun _ _ _ _ h => ih _ _ _ _ h) h
def mX19_ways : Nat := 0x4000000038000000000000000000000000000000000000000000000000000000000000000000000000000000000000000000000000000000000000000000000000000000000000000800000000000000000000000000000000000000000000000000000000000000000000000000000000000000000000000000000000000000000000000000000000000000000000000000000000000000000000000000000000000000000000000000000
theorem wX19_ways {M : Nat} {N : Nat} {x0 : Nat} {x1 : Nat} {z0 z : St} (hM : mX19_ways &&& M = mX19_ways)  (h : zFr M z0 z) : zPw M z0 (fX19_ways N x0 x1 z) := by
  unfold fX19_ways
  exact zw_i (zw_lI h (ztb hM rfl) (fun z2 h1 => zw_c (wX19_leastSums (ztr rfl hM)  h1) (fun _ z4 h2 => wX19_ways_20 (ztr rfl hM)  _ _ _ _ _ h2))) (zw_s h)
def mX19_toldBy_128 : Nat := 0x10000000000000000000000000000000000000000000000000000000000000000000000000000000000000000000000000000000000000000000000000000000000000000000000000000000000000000000000000000000000000000000000000000000000000000000000000000000000000000
theorem wX19_toldBy_128 {M : Nat} {N : Nat} {x5 : Int32} {s0 : Nat} {z0 z : St} (hM : mX19_toldBy_128 &&& M = mX19_toldBy_128)  (h : zFr M z0 z) : zPw M z0 (fX19_toldBy_128 N x5 s0 z) := by
  unfold fX19_toldBy_128
  exact zw_lI h (ztb hM rfl) (fun z1 h1 => zw_s h1)
def mX19_toldBy_68b : Nat := 0x800000000000000000000000000000000000000000000000000000000000000000000000000000000000000000000000000000000010000000000000000000000000000000000000000000000000000000000000000000000000000000000000000000000000000000000000000000000000000000000000000000000000000000000000000000000000000000000000000000000000000000000000000000000000000000000000000
theorem wX19_toldBy_68b {M : Nat} {N : Nat} {K68 : Nat → Nat → Int32 → Int32 → Int32 → Int32 → St → Option (Int32 × St)} {x0 : Nat} {x1 : Nat} {x3 : Int32} {x4 : Int32} {x5 : Int32} {x6 : Int32} {z0 z : St} (hM : mX19_toldBy_68b &&& M = mX19_toldBy_68b)  (hK68 : ∀ a0 a1 a2 a3 a4 a5 a6, zFr M z0 a6 → zPw M z0 (K68 a0 a1 a2 a3 a4 a5 a6)) (h : zFr M z0 z) : zPw M z0 (fX19_toldBy_68b N K68 x0 x1 x3 x4 x5 x6 z) := by
  unfold fX19_toldBy_68b
  exact zw_i (zw_i (wX19_toldBy_128 (ztr rfl hM)  h) (zw_i (wX19_toldBy_128 (ztr rfl hM)  h) (zw_lI h (ztb hM rfl) (fun z4 h1 => zw_s h1)))) (zw_k (zw_c (wX19_setByte (ztr rfl hM)  h) (fun _ z7 h2 => zw_l (fun v10 => hK68 _ _ _ _ _ _ _ h2))))
def mX19_toldBy_68 : Nat := 0x800000000000000000000000000000000000000000000000000000000000000000000000000000000000000000000000000000000010000000000000000000000000000000000000000000000000000000000000000000000000000000000000000000000000000000000000000000000000000000000000000000000000000000000000000000000000000000000000000000000000000000000000000000000000000000000000000
theorem wX19_toldBy_68 {M : Nat} {z0 : St} {N : Nat}(hM : mX19_toldBy_68 &&& M = mX19_toldBy_68)  : ∀ (n : Nat) (y0 : Nat) (y1 : Nat) (y2 : Int32) (y3 : Int32) (y4 : Int32) (y5 : Int32) (z : St), zFr M z0 z → zPw M z0 (fX19_toldBy_68 N n y0 y1 y2 y3 y4 y5 z) := by
  intro n
  induction n with
  | zero => intro y0 y1 y2 y3 y4 y5 z h; exact zw_n
  | succ n ih => intro y0 y1 y2 y3 y4 y5 z h; exact wX19_toldBy_68b (ztr rfl hM)  (fun _ _ _ _ _ _ _ h => ih _ _ _ _ _ _ _ h) h
def mX19_toldBy_41 : Nat := 0xc00000000000000000000000000000000000000000000000000000000000000000000000000000000000000000000000000000000010000000000000000000000000000000000000000000000000000000000000000000000000000000000000000000000000000000000000000000000000000000000000000000000000000000000000000000000000000000000000000000000000000000000000000000000000000000000000000
theorem wX19_toldBy_41 {M : Nat} {N : Nat} {x0 : Nat} {x1 : Nat} {x3 : Int32} {x4 : Int32} {x5 : Int32} {s0 : Nat} {s1 : Int32} {s2 : Int32} {s3 : Int32} {z0 z : St} (hM : mX19_toldBy_41 &&& M = mX19_toldBy_41)  (h : zFr M z0 z) : zPw M z0 (fX19_toldBy_41 N x0 x1 x3 x4 x5 s0 s1 s2 s3 z) := by
  unfold fX19_toldBy_41
  exact zw_c (wX19_setSeg (ztr rfl hM)  h) (fun _ z2 h1 => zw_c (wX14_room (ztr rfl hM)  h1) (fun r5 z6 h2 => zw_c (wX19_setSeg (ztr rfl hM)  h2) (fun _ z10 h3 => zw_c (wX19_setSeg (ztr rfl hM)  h3) (fun _ z14 h4 => wX19_toldBy_68 (ztr rfl hM)  _ _ _ _ _ _ _ _ h4))))
def mX19_toldBy_16 : Nat := 0x1c00000000000000000000000000000000800000000000000000000000000000000000000000000000000000000000000000000000010000000000000000000000000000000000000000000000000000000000000000000000000000000000000000000000000000000000000000000000000000000000000000000000000000000000000000000000000000000000000000000000000000000000000000000000000000000000000000
theorem wX19_toldBy_16 {M : Nat} {N : Nat} {x0 : Nat} {x1 : Nat} {x3 : Int32} {x4 : Int32} {s0 : Nat} {s1 : Int32} {z0 z : St} (hM : mX19_toldBy_16 &&& M = mX19_toldBy_16)  (h : zFr M z0 z) : zPw M z0 (fX19_toldBy_16 N x0 x1 x3 x4 s0 s1 z) := by
  unfold fX19_toldBy_16
  exact zw_c (wX19_newSegment (ztr rfl hM)  h) (fun r1 z2 h1 => zw_i (wX19_toldBy_41 (ztr rfl hM)  h1) (wX19_toldBy_41 (ztr rfl hM)  h1))
def mX19_toldBy : Nat := 0x1c00000000000000000000000000000000800000000000000000000000000000000000000000000000000000000000000000000000010000000000000000000000000000000000000000000000000000000000000000000000000000000000000000000000000000000000000000000000000000000000000000000000000000000000000000000000000000000000000000000000000000000000000000000000000000000000000000
theorem wX19_toldBy {M : Nat} {N : Nat} {x0 : Nat} {x1 : Nat} {x2 : Int32} {x3 : Int32} {x4 : Int32} {z0 z : St} (hM : mX19_toldBy &&& M = mX19_toldBy)  (h : zFr M z0 z) : zPw M z0 (fX19_toldBy N x0 x1 x2 x3 x4 z) := by
  unfold fX19_toldBy
  exact zw_i (wX19_toldBy_16 (ztr rfl hM)  h) (wX19_toldBy_16 (ztr rfl hM)  h)
def mX19_sendNew_148 : Nat := 0xe60000008000000000000000000000000000000000000000000000000000000000000000000000000000000000000000000000000000000000000000000000000000000000000000000000000000000000000000000000000000000000000000000000000000000000000000000000000000000000
theorem wX19_sendNew_148 {M : Nat} {N : Nat} {x0 : Nat} {x1 : Nat} {x6 : Int32} {s0 : Nat} {s1 : Int32} {s2 : Int32} {s3 : Int32} {z0 z : St} (hM : mX19_sendNew_148 &&& M = mX19_sendNew_148)  (h : zFr M z0 z) : zPw M z0 (fX19_sendNew_148 N x0 x1 x6 s0 s1 s2 s3 z) := by
  unfold fX19_sendNew_148
  exact zw_lI h (ztb hM rfl) (fun z1 h1 => zw_c (wX14_isNew (ztr rfl hM)  h1) (fun _ z3 h2 => zw_s h2))
def mX19_sendNew_120 : Nat := 0x1c00000000000000000000000000000000800000000000000000000000000000000000000000000000000000000000000000000000e70000008000000000000000000000000000000000000000000000000000000000000000000000000000000000000000000000000000000000000000000000000000000000000000000000000000000000000000000000000000000000000000000000000000000000000000000000000000000000
theorem wX19_sendNew_120 {M : Nat} {N : Nat} {x0 : Nat} {x1 : Nat} {x4 : Int32} {x5 : Int32} {s0 : Nat} {s1 : Nat} {s2 : Int32} {z0 z : St} (hM : mX19_sendNew_120 &&& M = mX19_sendNew_120)  (h : zFr M z0 z) : zPw M z0 (fX19_sendNew_120 N x0 x1 x4 x5 s0 s1 s2 z) := by
  unfold fX19_sendNew_120
  exact zw_c (wX19_toldBy (ztr rfl hM)  h) (fun r1 z2 h1 => zw_i (wX19_sendNew_148 (ztr rfl hM)  h1) (wX19_sendNew_148 (ztr rfl hM)  h1))
def mX19_sendNew_108 : Nat := 0x1c00000000000000000000000000000000800000000000000000000000000000000000000000000000000000000000000000000000e70000008000000000000000000000000000000000000000000000000000000000000000000000000000000000000000000000000000000000000000000000000000000000000000000000000000000000000000000000000000000000000000000000000000000000000000000000000000000000
theorem wX19_sendNew_108 {M : Nat} {N : Nat} {x0 : Nat} {x1 : Nat} {x4 : Int32} {x5 : Int32} {z0 z : St} (hM : mX19_sendNew_108 &&& M = mX19_sendNew_108)  (h : zFr M z0 z) : zPw M z0 (fX19_sendNew_108 N x0 x1 x4 x5 z) := by
  unfold fX19_sendNew_108
  exact zw_i (wX19_sendNew_120 (ztr rfl hM)  h) (wX19_sendNew_120 (ztr rfl hM)  h)
def mX19_sendNew_94 : Nat := 0x1c00000000000000000000000000000000800000000000000000000000000000000000000000000000000000000000000000000000e70000008000000000000000000000000000000000000000000000000000000000000000000000000000000000000000000000000000000000000000000000000000000000000000000000000000000000000000000000000000000000000000000000000000000000000000000000000000000000
theorem wX19_sendNew_94 {M : Nat} {N : Nat} {x0 : Nat} {x1 : Nat} {x4 : Int32} {s0 : Int32} {z0 z : St} (hM : mX19_sendNew_94 &&& M = mX19_sendNew_94)  (h : zFr M z0 z) : zPw M z0 (fX19_sendNew_94 N x0 x1 x4 s0 z) := by
  unfold fX19_sendNew_94
  exact zw_i (wX19_sendNew_108 (ztr rfl hM)  h) (zw_i (wX19_sendNew_108 (ztr rfl hM)  h) (zw_s h))
def mX19_sendNew_93 : Nat := 0x1c00000000000000000000000000000000800000000000000000000000000000000000000000000000000000000000000000000000e70000008000000000000000000000000000000000000000000000000000000000000000000000000000000000000000000000000000000000000000000000000000000000000000000000000000000000000000000000000000000000000000000000000000000000000000000000000000000000
theorem wX19_sendNew_93 {M : Nat} {N : Nat} {x0 : Nat} {x1 : Nat} {x4 : Int32} {z0 z : St} (hM : mX19_sendNew_93 &&& M = mX19_sendNew_93)  (h : zFr M z0 z) : zPw M z0 (fX19_sendNew_93 N x0 x1 x4 z) := by
  unfold fX19_sendNew_93
  exact wX19_sendNew_94 (ztr rfl hM)  h
def mX19_sendNew_68 : Nat := 0x1c00000000000000000000000000000000800000000000000000000000000000000000000000000000000000000000000000000000e70000008000000000000000000000000000000000000000000000000000000000000000000000000000000000000000000000000000000000000000000000000000000000000000000000000000000000000000000000000000000000000000000000000000000000000000000000000000000000
theorem wX19_sendNew_68 {M : Nat} {N : Nat} {x0 : Nat} {x1 : Nat} {x2 : Int32} {x3 : Int32} {s0 : Int32} {z0 z : St} (hM : mX19_sendNew_68 &&& M = mX19_sendNew_68)  (h : zFr M z0 z) : zPw M z0 (fX19_sendNew_68 N x0 x1 x2 x3 s0 z) := by
  unfold fX19_sendNew_68
  exact zw_i (wX19_sendNew_93 (ztr rfl hM)  h) (zw_i (wX19_sendNew_93 (ztr rfl hM)  h) (zw_i (wX19_sendNew_93 (ztr rfl hM)  h) (wX19_sendNew_94 (ztr rfl hM)  h)))
def mX19_sendNew_54 : Nat := 0x1c00000000000000000000000000000000800000000000000000000000000000000000000000000000000000000000000000000000e70000008000000000000000000000000000000000000000000000000000000000000000000000000000000000000000000000000000000000000000000000000000000000000000000000000000000000000000000000000000000000000000000000000000000000000000000000000000000000
theorem wX19_sendNew_54 {M : Nat} {N : Nat} {x0 : Nat} {x1 : Nat} {x2 : Int32} {x3 : Int32} {s0 : Int32} {z0 z : St} (hM : mX19_sendNew_54 &&& M = mX19_sendNew_54)  (h : zFr M z0 z) : zPw M z0 (fX19_sendNew_54 N x0 x1 x2 x3 s0 z) := by
  unfold fX19_sendNew_54
  exact zw_i (wX19_sendNew_68 (ztr rfl hM)  h) (wX19_sendNew_68 (ztr rfl hM)  h)
def mX19_sendNew : Nat := 0x1c00000000000000000000000000000000800000000000000000000000000000000000000000000000000000000000000000000000e70000008000000000000000000000000000000000000000000000000000000000000000000000000000000000000000000000000000000000000000000000000000000000000000000000000000000000000000000000000000000000000000000000000000000000000000000000000000000000
theorem wX19_sendNew {M : Nat} {N : Nat} {x0 : Nat} {x1 : Nat} {z0 z : St} (hM : mX19_sendNew &&& M = mX19_sendNew)  (h : zFr M z0 z) : zPw M z0 (fX19_sendNew N x0 x1 z) := by
  unfold fX19_sendNew
  exact zw_l (fun v1 => zw_c (wX14_hasNew (ztr rfl hM)  h) (fun r2 z3 h1 => zw_i (zw_s h1) (zw_i (zw_l (fun v8 => zw_i (wX19_sendNew_54 (ztr rfl hM)  h1) (wX19_sendNew_54 (ztr rfl hM)  h1))) (zw_s h1))))
def mX19_sendOpen_111 : Nat := 0x62000000000000000000000000000000000000000000000000000000000000000000000000000000000000000000000000000000000000000000000000000000000000000000000000000000000000000000000000000000000000000000000000000000000000000000000000000000000000000
theorem wX19_sendOpen_111 {M : Nat} {N : Nat} {x0 : Nat} {x1 : Nat} {x2 : Int32} {z0 z : St} (hM : mX19_sendOpen_111 &&& M = mX19_sendOpen_111)  (h : zFr M z0 z) : zPw M z0 (fX19_sendOpen_111 N x0 x1 x2 z) := by
  unfold fX19_sendOpen_111
  exact zw_lI h (ztb hM rfl) (fun z1 h1 => zw_i (zw_s h1) (zw_c (wX14_setAlarm (ztr rfl hM)  h1) (fun _ z4 h2 => zw_s h2)))
def mX19_sendOpen : Nat := 0x81c00000000000000000000000000000000800000000000000000000000000000000000000000000000000000000000000000000000e73000000000000000000000000000000000000000000000000000000000000000000000000000000000000000000000000000000000000000000000000000000000000000000000000000000000000000000000000000000000000000000000000000000000000000000000000000000000000000
theorem wX19_sendOpen {M : Nat} {N : Nat} {x0 : Nat} {x1 : Nat} {z0 z : St} (hM : mX19_sendOpen &&& M = mX19_sendOpen)  (h : zFr M z0 z) : zPw M z0 (fX19_sendOpen N x0 x1 z) := by
  unfold fX19_sendOpen
  exact zw_lI h (ztb hM rfl) (fun z1 h1 => zw_c (wX19_toldBy (ztr rfl hM)  h1) (fun r2 z3 h2 => zw_c (wX19_setSeg (ztr rfl hM)  h2) (fun _ z7 h3 => zw_c (wX19_setSeg (ztr rfl hM)  h3) (fun _ z11 h4 => zw_k (zw_c (wX19_setSeg (ztr rfl hM)  h4) (fun _ z16 h5 => zw_k (zw_k (zw_lA h5 (ztb hM rfl) (fun z21 h6 => zw_i (zw_i (wX19_sendOpen_111 (ztr rfl hM)  h6) (zw_lI h6 (ztb hM rfl) (fun z24 h7 => zw_lI h7 (ztb hM rfl) (fun z25 h8 => zw_lI h8 (ztb hM rfl) (fun z26 h9 => wX19_sendOpen_111 (ztr rfl hM)  h9))))) (zw_lI h6 (ztb hM rfl) (fun z27 h10 => wX19_sendOpen_111 (ztr rfl hM)  h10)))))))))))
def mX19_send_127 : Nat := 0x1c00000000000000000000000000000000800000000000000000000000000000000000000000000000000000000000000000000000010000000000000000000000000000000000000000000000000000000000000000000000000000000000000000000000000000000000000000000000000000000000000000000000000000000000000000000000000000000000000000000000000000000000000000000000000000000000000000
theorem wX19_send_127 {M : Nat} {N : Nat} {x1 : Nat} {x3 : Int32} {s0 : Nat} {s1 : Nat} {s2 : Int32} {z0 z : St} (hM : mX19_send_127 &&& M = mX19_send_127)  (h : zFr M z0 z) : zPw M z0 (fX19_send_127 N x1 x3 s0 s1 s2 z) := by
  unfold fX19_send_127
  exact zw_c (wX19_toldBy (ztr rfl hM)  h) (fun r1 z2 h1 => zw_s h1)
def mX19_send_126 : Nat := 0x1c00000000000000000000000000000000800000000000000000000000000000000000000000000000000000000000000000000000010000000000000000000000000000000000000000000000000000000000000000000000000000000000000000000000000000000000000000000000000000000000000000000000000000000000000000000000000000000000000000000000000000000000000000000000000000000000000000
theorem wX19_send_126 {M : Nat} {N : Nat} {x1 : Nat} {x3 : Int32} {s0 : Nat} {s1 : Nat} {z0 z : St} (hM : mX19_send_126 &&& M = mX19_send_126)  (h : zFr M z0 z) : zPw M z0 (fX19_send_126 N x1 x3 s0 s1 z) := by
  unfold fX19_send_126
  exact wX19_send_127 (ztr rfl hM)  h
def mX19_send_107 : Nat := 0x1c00000000000000000000000000000000800000000000000000000000000000000000000000000000000000000000000000000000010000000000000000000000000000000000000000000000000000000000000000000000000000000000000000000000000000000000000000000000000000000000000000000000000000000000000000000000000000000000000000000000000000000000000000000000000000000000000000
theorem wX19_send_107 {M : Nat} {N : Nat} {x0 : Nat} {x1 : Nat} {x2 : Int32} {s0 : Int32} {z0 z : St} (hM : mX19_send_107 &&& M = mX19_send_107)  (h : zFr M z0 z) : zPw M z0 (fX19_send_107 N x0 x1 x2 s0 z) := by
  unfold fX19_send_107
  exact zw_c (wX14_lastSent (ztr rfl hM)  h) (fun r1 z2 h1 => zw_i (wX19_send_126 (ztr rfl hM)  h1) (zw_i (wX19_send_126 (ztr rfl hM)  h1) (wX19_send_127 (ztr rfl hM)  h1)))
def mX19_send_85 : Nat := 0x1c00000000000000000000000000000000800000000000000000000000000000000000000000000000000000000000000000000000010000000000000000000000000000000000000000000000000000000000000000000000000000000000000000000000000000000000000000000000000000000000000000000000000000000000000000000000000000000000000000000000000000000000000000000000000000000000000000
theorem wX19_send_85 {M : Nat} {N : Nat} {x0 : Nat} {x1 : Nat} {s0 : Int32} {z0 z : St} (hM : mX19_send_85 &&& M = mX19_send_85)  (h : zFr M z0 z) : zPw M z0 (fX19_send_85 N x0 x1 s0 z) := by
  unfold fX19_send_85
  exact zw_l (fun v1 => zw_i (wX19_send_107 (ztr rfl hM)  h) (wX19_send_107 (ztr rfl hM)  h))
def mX19_send_199 : Nat := 0x1c00000000000000000000000000000000800000000000000000000000000000000000000000000000000000000000000000000000e70000008000000000000000000000000000000000000000000000000000000000000000000000000000000000000000000000000000000000000000000000000000000000000000000000000000000000000000000000000000000000000000000000000000000000000000000000000000000000
theorem wX19_send_199 {M : Nat} {N : Nat} {x0 : Nat} {x1 : Nat} {x3 : Int32} {s0 : Nat} {s1 : Nat} {s2 : Int32} {z0 z : St} (hM : mX19_send_199 &&& M = mX19_send_199)  (h : zFr M z0 z) : zPw M z0 (fX19_send_199 N x0 x1 x3 s0 s1 s2 z) := by
  unfold fX19_send_199
  exact zw_c (wX19_toldBy (ztr rfl hM)  h) (fun r1 z2 h1 => zw_lI h1 (ztb hM rfl) (fun z5 h2 => zw_c (wX14_isNew (ztr rfl hM)  h2) (fun _ z7 h3 => zw_s h3)))
def mX19_send_187 : Nat := 0x1c00000000000000000000000000000000800000000000000000000000000000000000000000000000000000000000000000000000e70000008000000000000000000000000000000000000000000000000000000000000000000000000000000000000000000000000000000000000000000000000000000000000000000000000000000000000000000000000000000000000000000000000000000000000000000000000000000000
theorem wX19_send_187 {M : Nat} {N : Nat} {x0 : Nat} {x1 : Nat} {s0 : Int32} {z0 z : St} (hM : mX19_send_187 &&& M = mX19_send_187)  (h : zFr M z0 z) : zPw M z0 (fX19_send_187 N x0 x1 s0 z) := by
  unfold fX19_send_187
  exact zw_i (wX19_send_199 (ztr rfl hM)  h) (wX19_send_199 (ztr rfl hM)  h)
def mX19_send_230 : Nat := 0x1c00000000000000000000000000000000800000000000000000000000000000000000000000000000000000000000000000000000010000000000000000000000000000000000000000000000000000000000000000000000000000000000000000000000000000000000000000000000000000000000000000000000000000000000000000000000000000000000000000000000000000000000000000000000000000000000000000
theorem wX19_send_230 {M : Nat} {N : Nat} {x0 : Nat} {x1 : Nat} {z0 z : St} (hM : mX19_send_230 &&& M = mX19_send_230)  (h : zFr M z0 z) : zPw M z0 (fX19_send_230 N x0 x1 z) := by
  unfold fX19_send_230
  exact zw_i (zw_s h) (zw_c (wX19_toldBy (ztr rfl hM)  h) (fun r2 z3 h1 => zw_s h1))
def mX19_send : Nat := 0x81c00000000000000000000000000000000800000000000000000000000000000000000000000000000000000000000000000000000e7f100008000000000000000000000000000000000000000000000000000000000000000000000000000000000000000000000000000000000000000000000000000000000000000000000000000000000000000000000000000000000000000000000000000000000000000000000000000000000
theorem wX19_send {M : Nat} {N : Nat} {x0 : Nat} {x1 : Nat} {z0 z : St} (hM : mX19_send &&& M = mX19_send)  (h : zFr M z0 z) : zPw M z0 (fX19_send N x0 x1 z) := by
  unfold fX19_send
  exact zw_i (zw_i (zw_i (zw_c (wX19_sendNew (ztr rfl hM)  h) (fun r4 z5 h1 => zw_i (zw_i (wX19_send_230 (ztr rfl hM)  h1) (zw_lI h1 (ztb hM rfl) (fun z10 h2 => zw_c (wX14_hasNew (ztr rfl hM)  h2) (fun r11 z12 h3 => zw_i (wX19_send_230 (ztr rfl hM)  h3) (zw_c (wX19_isBefore (ztr rfl hM)  h3) (fun r16 z17 h4 => zw_i (wX19_send_187 (ztr rfl hM)  h4) (wX19_send_187 (ztr rfl hM)  h4))))))) (zw_s h1))) (zw_lI h (ztb hM rfl) (fun z21 h5 => zw_lI h5 (ztb hM rfl) (fun z22 h6 => zw_c (wX14_lastSent (ztr rfl hM)  h6) (fun r23 z24 h7 => zw_i (wX19_send_85 (ztr rfl hM)  h7) (wX19_send_85 (ztr rfl hM)  h7)))))) (zw_c (wX19_sendOpen (ztr rfl hM)  h) (fun r28 z29 h8 => zw_s h8))) (zw_lI h (ztb hM rfl) (fun z32 h9 => zw_c (wX19_newSegment (ztr rfl hM)  h9) (fun r33 z34 h10 => zw_c (wX19_setSeg (ztr rfl hM)  h10) (fun _ z38 h11 => zw_s h11))))
def mX19_takeEnd : Nat := 0x280000000000000000000000000000000200000000000000000000000000000000000000000000000000000000000000000000000030000000000000000000000000080000000000000000000000000000000000000000000000000000000000000000000000000000000000000000000000000000000000000000000000000000000000000000000000000000000000000000000000000000000000000000000000000000000000000000
theorem wX19_takeEnd {M : Nat} {N : Nat} {x0 : Nat} {x1 : Nat} {z0 z : St} (hM : mX19_takeEnd &&& M = mX19_takeEnd)  (h : zFr M z0 z) : zPw M z0 (fX19_takeEnd N x0 x1 z) := by
  unfold fX19_takeEnd
  exact zw_lI h (ztb hM rfl) (fun z1 h1 => zw_l (fun y2 => zw_d (fun a3 => zw_c (wX19_dropBook (ztr rfl hM)  h1) (fun _ z5 h2 => zw_l (fun y8 => zw_d (fun a9 => zw_c (wX19_dropBook (ztr rfl hM)  h2) (fun _ z11 h3 => zw_l (fun y14 => zw_d (fun a15 => zw_lI h3 (ztb hM rfl) (fun z16 h4 => zw_l (fun y17 => zw_d (fun a18 => zw_lI h4 (ztb hM rfl) (fun z19 h5 => zw_s h5)))))))))))))
def mX19_read_65 : Nat := 0x40000000000000000000000000000000000000000000000000000000000000000000000000040000000000000000000000000000000000000000000000000000000000000000000000000000000000000000000000000000000000000000000000000000000000000000000000000000000000000000000000000000000000000000000000000000000000000000000000000000000000000000000
theorem wX19_read_65 {M : Nat} {N : Nat} {x1 : Nat} {x2 : Int32} {s0 : Nat} {s1 : Int32} {s2 : Int32} {z0 z : St} (hM : mX19_read_65 &&& M = mX19_read_65)  (h : zFr M z0 z) : zPw M z0 (fX19_read_65 N x1 x2 s0 s1 s2 z) := by
  unfold fX19_read_65
  exact zw_lI h (ztb hM rfl) (fun z1 h1 => zw_lI h1 (ztb hM rfl) (fun z2 h2 => zw_s h2))
def mX19_read_50 : Nat := 0x40000000000000000000000000000000000000000000000000000000000000000000000000040000000000000000000000000000000000000000000000000000000000000000000000000000000000000000000000000000000000000000000000000000000000000000000000000000000000000000000000000000000000000000000000000000000000000000000000000000000000000000000
theorem wX19_read_50 {M : Nat} {N : Nat} {x0 : Nat} {x1 : Nat} {x2 : Int32} {s0 : Int32} {z0 z : St} (hM : mX19_read_50 &&& M = mX19_read_50)  (h : zFr M z0 z) : zPw M z0 (fX19_read_50 N x0 x1 x2 s0 z) := by
  unfold fX19_read_50
  exact zw_i (wX19_read_65 (ztr rfl hM)  h) (wX19_read_65 (ztr rfl hM)  h)
def mX19_read_49 : Nat := 0x40000000000000000000000000000000000000000000000000000000000000000000000000040000000000000000000000000000000000000000000000000000000000000000000000000000000000000000000000000000000000000000000000000000000000000000000000000000000000000000000000000000000000000000000000000000000000000000000000000000000000000000000
theorem wX19_read_49 {M : Nat} {N : Nat} {x0 : Nat} {x1 : Nat} {x2 : Int32} {z0 z : St} (hM : mX19_read_49 &&& M = mX19_read_49)  (h : zFr M z0 z) : zPw M z0 (fX19_read_49 N x0 x1 x2 z) := by
  unfold fX19_read_49
  exact wX19_read_50 (ztr rfl hM)  h
def mX19_read : Nat := 0x40000000000000000000000000000000000000000000000000000000000000000000000000040010004000000000000000000000000000000000000000000000000000000000000000000000000000000000000000000000000000000000000000000000000000000000000000000000000000000000000000000000000000000000000000000000000000000000000000000000000000000000000
theorem wX19_read {M : Nat} {N : Nat} {x0 : Nat} {x1 : Nat} {z0 z : St} (hM : mX19_read &&& M = mX19_read)  (h : zFr M z0 z) : zPw M z0 (fX19_read N x0 x1 z) := by
  unfold fX19_read
  exact zw_c (wX14_read (ztr rfl hM)  h) (fun r1 z2 h1 => zw_i (wX19_read_49 (ztr rfl hM)  h1) (zw_k (zw_i (wX19_read_49 (ztr rfl hM)  h1) (zw_c (wX19_written (ztr rfl hM)  h1) (fun r8 z9 h2 => zw_i (wX19_read_49 (ztr rfl hM)  h2) (wX19_read_50 (ztr rfl hM)  h2))))))
def mX19_doorTurn_192 : Nat := 0x280000000000000000000000000000000200000000000000000000000000000000000000000000000000000000000000000000000030000000000000000000000000080000000000000000000000000000000000000000000000000000000000000000000000000000000000000000000000000000000000000000000000000000000000000000000000000000000000000000000000000000000000000000000000000000000000000000
theorem wX19_doorTurn_192 {M : Nat} {N : Nat} {x0 : Nat} {x2 : Nat} {z0 z : St} (hM : mX19_doorTurn_192 &&& M = mX19_doorTurn_192)  (h : zFr M z0 z) : zPw M z0 (fX19_doorTurn_192 N x0 x2 z) := by
  unfold fX19_doorTurn_192
  exact zw_c (wX19_takeEnd (ztr rfl hM)  h) (fun _ z2 h1 => zw_s h1)
def mX19_doorTurn_163 : Nat := 0x280000000000000000000000000000000200000000000000000000000000000000000000000000000000000000000000000000000030000000000000000000000000080000000000000000000000000000000000000000000000000000000000000000000000000000000000000000000000000000000000000000000000000000000000000000000000000000000000000000000000000000000000000000000000000000000000000000
theorem wX19_doorTurn_163 {M : Nat} {N : Nat} {x0 : Nat} {x2 : Nat} {x3 : Nat} {z0 z : St} (hM : mX19_doorTurn_163 &&& M = mX19_doorTurn_163)  (h : zFr M z0 z) : zPw M z0 (fX19_doorTurn_163 N x0 x2 x3 z) := by
  unfold fX19_doorTurn_163
  exact zw_i (zw_s h) (zw_i (wX19_doorTurn_192 (ztr rfl hM)  h) (zw_c (wX14_isDead (ztr rfl hM)  h) (fun r3 z4 h1 => zw_i (zw_s h1) (zw_i (zw_s h1) (wX19_doorTurn_192 (ztr rfl hM)  h1)))))
def mX19_doorTurn_152 : Nat := 0x280000000000000000000000000000080200000000000000000000000000000000000000000000000000000000000000000000000030000000000000000000000000080000000000000000000000000000000000000000000000000000000000000000000000000000000000000000000000000000000000000000000000000000000000000000000000000000000000000000000000000000000000000000000000000000000000000000
theorem wX19_doorTurn_152 {M : Nat} {N : Nat} {x0 : Nat} {x2 : Nat} {x3 : Nat} {z0 z : St} (hM : mX19_doorTurn_152 &&& M = mX19_doorTurn_152)  (h : zFr M z0 z) : zPw M z0 (fX19_doorTurn_152 N x0 x2 x3 z) := by
  unfold fX19_doorTurn_152
  exact zw_c (wX14_readable (ztr rfl hM)  h) (fun r1 z2 h1 => zw_i (wX19_doorTurn_163 (ztr rfl hM)  h1) (zw_c (wX19_stir (ztr rfl hM)  h1) (fun _ z7 h2 => wX19_doorTurn_163 (ztr rfl hM)  h2)))
def mX19_doorTurn_118b : Nat := 0x2800000000000000000000000000000c0200000000000000000000000000000000000000000000000000000000000000000000000070010004000000000000000002080000000000000000000000000000000000000000000000000000000000000000000000000000000000000000000000000000000000000000000000000000000000000000000000000000000000000000000000000000000000000000000000000000000000000000
theorem wX19_doorTurn_118b {M : Nat} {N : Nat} {K118 : Nat → Nat → Nat → St → Option (Int32 × St)} {x0 : Nat} {x2 : Nat} {x3 : Nat} {z0 z : St} (hM : mX19_doorTurn_118b &&& M = mX19_doorTurn_118b)  (hK118 : ∀ a0 a1 a2 a3, zFr M z0 a3 → zPw M z0 (K118 a0 a1 a2 a3)) (h : zFr M z0 z) : zPw M z0 (fX19_doorTurn_118b N K118 x0 x2 x3 z) := by
  unfold fX19_doorTurn_118b
  exact zw_i (wX19_doorTurn_152 (ztr rfl hM)  h) (zw_c (wX14_readable (ztr rfl hM)  h) (fun r2 z3 h1 => zw_i (wX19_doorTurn_152 (ztr rfl hM)  h1) (zw_c (wX19_read (ztr rfl hM)  h1) (fun r7 z8 h2 => zw_lI h2 (ztb hM rfl) (fun z11 h3 => hK118 _ _ _ _ h3)))))
def mX19_doorTurn_118 : Nat := 0x2800000000000000000000000000000c0200000000000000000000000000000000000000000000000000000000000000000000000070010004000000000000000002080000000000000000000000000000000000000000000000000000000000000000000000000000000000000000000000000000000000000000000000000000000000000000000000000000000000000000000000000000000000000000000000000000000000000000
theorem wX19_doorTurn_118 {M : Nat} {z0 : St} {N : Nat}(hM : mX19_doorTurn_118 &&& M = mX19_doorTurn_118)  : ∀ (n : Nat) (y0 : Nat) (y1 : Nat) (y2 : Nat) (z : St), zFr M z0 z → zPw M z0 (fX19_doorTurn_118 N n y0 y1 y2 z) := by
  intro n
  induction n with
  | zero => intro y0 y1 y2 z h; exact zw_n
  | succ n ih => intro y0 y1 y2 z h; exact wX19_doorTurn_118b (ztr rfl hM)  (fun _ _ _ _ h => ih _ _ _ _ h) h
def mX19_doorTurn_75b : Nat := 0x129bff20000000000000000000000000c8208840000000000001200000000000000000000000000000001800000000000000000000078e7f1040081000000000000020800000000000002d0000000000000000000000000000000000000000000000000000000000000000000000000000000000000000000000000000000000000000000000000000000000000000000000000000000000000000000000000000000000000000000000000
theorem wX19_doorTurn_75b {M : Nat} {N : Nat} {K75 : Nat → Nat → Nat → Nat → Int32 → St → Option (Int32 × St)} {x0 : Nat} {x1 : Nat} {x2 : Nat} {x3 : Nat} {x4 : Int32} {z0 z : St} (hM : mX19_doorTurn_75b &&& M = mX19_doorTurn_75b)  (hK75 : ∀ a0 a1 a2 a3 a4 a5, zFr M z0 a5 → zPw M z0 (K75 a0 a1 a2 a3 a4 a5)) (h : zFr M z0 z) : zPw M z0 (fX19_doorTurn_75b N K75 x0 x1 x2 x3 x4 z) := by
  unfold fX19_doorTurn_75b
  exact zw_i (zw_c (wX14_persist (ztr rfl hM)  h) (fun _ z3 h1 => wX19_doorTurn_118 (ztr rfl hM)  _ _ _ _ _ h1)) (zw_c (wX19_say (ztr rfl hM)  h) (fun _ z7 h2 => zw_c (wX19_send (ztr rfl hM)  h2) (fun r10 z11 h3 => hK75 _ _ _ _ _ _ h3)))
def mX19_doorTurn_75 : Nat := 0x129bff20000000000000000000000000c8208840000000000001200000000000000000000000000000001800000000000000000000078e7f1040081000000000000020800000000000002d0000000000000000000000000000000000000000000000000000000000000000000000000000000000000000000000000000000000000000000000000000000000000000000000000000000000000000000000000000000000000000000000000
theorem wX19_doorTurn_75 {M : Nat} {z0 : St} {N : Nat}(hM : mX19_doorTurn_75 &&& M = mX19_doorTurn_75)  : ∀ (n : Nat) (y0 : Nat) (y1 : Nat) (y2 : Nat) (y3 : Nat) (y4 : Int32) (z : St), zFr M z0 z → zPw M z0 (fX19_doorTurn_75 N n y0 y1 y2 y3 y4 z) := by
  intro n
  induction n with
  | zero => intro y0 y1 y2 y3 y4 z h; exact zw_n
  | succ n ih => intro y0 y1 y2 y3 y4 z h; exact wX19_doorTurn_75b (ztr rfl hM)  (fun _ _ _ _ _ _ h => ih _ _ _ _ _ _ h) h
def mX19_doorTurn_68 : Nat := 0x129bff20000000000000000000000000c8208840000000000001200000000000000000000000000000001800000000000000000000078e7f1040081000000000000020800000000000002d0000000000000000000000000000000000000000000000000000000000000000000000000000000000000000000000000000000000000000000000000000000000000000000000000000000000000000000000000000000000000000000000000
theorem wX19_doorTurn_68 {M : Nat} {N : Nat} {x0 : Nat} {x1 : Nat} {x2 : Nat} {x3 : Nat} {z0 z : St} (hM : mX19_doorTurn_68 &&& M = mX19_doorTurn_68)  (h : zFr M z0 z) : zPw M z0 (fX19_doorTurn_68 N x0 x1 x2 x3 z) := by
  unfold fX19_doorTurn_68
  exact zw_c (wX19_send (ztr rfl hM)  h) (fun r1 z2 h1 => wX19_doorTurn_75 (ztr rfl hM)  _ _ _ _ _ _ _ h1)
def mX19_doorTurn_42 : Nat := 0x129bff20000000000000000000000000c8208840000000000001200000000000000000000000000000001800000000000000000000078fff1040081000000000000020800000000000002d0000000000000000000000000000000000000000000000000000000000000000000000000000000000000000000000000000000000000000000000000000000000000000000000000000000000000000000000000000000000000000000000000
theorem wX19_doorTurn_42 {M : Nat} {N : Nat} {x0 : Nat} {x1 : Nat} {x2 : Nat} {x3 : Nat} {z0 z : St} (hM : mX19_doorTurn_42 &&& M = mX19_doorTurn_42)  (h : zFr M z0 z) : zPw M z0 (fX19_doorTurn_42 N x0 x1 x2 x3 z) := by
  unfold fX19_doorTurn_42
  exact zw_i (wX19_doorTurn_68 (ztr rfl hM)  h) (zw_i (wX19_doorTurn_68 (ztr rfl hM)  h) (zw_c (wX14_ring (ztr rfl hM)  h) (fun _ z4 h1 => wX19_doorTurn_68 (ztr rfl hM)  h1)))
def mX19_doorTurn : Nat := 0x129bff20000000000000000000000000c8208840000000000001200000000000000000000000000000001800000000000000000000078fff1040081000000000000020800000000000002d0000000000000000000000000000000000000000000000000000000000000000000000000000000000000000000000000000000000000000000000000000000000000000000000000000000000000000000000000000000000000000000000000
theorem wX19_doorTurn {M : Nat} {N : Nat} {x0 : Nat} {x1 : Nat} {x2 : Nat} {z0 z : St} (hM : mX19_doorTurn &&& M = mX19_doorTurn)  (h : zFr M z0 z) : zPw M z0 (fX19_doorTurn N x0 x1 x2 z) := by
  unfold fX19_doorTurn
  exact zw_i (zw_l (fun y2 => zw_d (fun a3 => zw_i (wX19_doorTurn_42 (ztr rfl hM)  h) (zw_i (wX19_doorTurn_42 (ztr rfl hM)  h) (zw_c (wX14_become (ztr rfl hM)  h) (fun _ z7 h1 => wX19_doorTurn_42 (ztr rfl hM)  h1)))))) (zw_s h)
def mX19_tick_168 : Nat := 0x0
theorem wX19_tick_168 {M : Nat} {N : Nat} {K16 : Nat → Int32 → St → Option (Int32 × St)} {x0 : Nat} {x1 : Int32} {z0 z : St} (hM : mX19_tick_168 &&& M = mX19_tick_168)  (hK16 : ∀ a0 a1 a2, zFr M z0 a2 → zPw M z0 (K16 a0 a1 a2)) (h : zFr M z0 z) : zPw M z0 (fX19_tick_168 N K16 x0 x1 z) := by
  unfold fX19_tick_168
  exact zw_l (fun v1 => hK16 _ _ _ h)
def mX19_tick_145b : Nat := 0x129bff20000000000000000000000000c8208840000000000001200000000000000000000000000000001800000000000000000000078fff1040081000000000000020800000000000002d0000000000000000000000000000000000000000000000000000000000000000000000000000000000000000000000000000000000000000000000000000000000000000000000000000000000000000000000000000000000000000000000000
theorem wX19_tick_145b {M : Nat} {N : Nat} {K16 : Nat → Int32 → St → Option (Int32 × St)} {K145 : Nat → Int32 → Nat → Int32 → St → Option (Int32 × St)} {x0 : Nat} {x1 : Int32} {x2 : Nat} {x3 : Int32} {z0 z : St} (hM : mX19_tick_145b &&& M = mX19_tick_145b)  (hK16 : ∀ a0 a1 a2, zFr M z0 a2 → zPw M z0 (K16 a0 a1 a2)) (hK145 : ∀ a0 a1 a2 a3 a4, zFr M z0 a4 → zPw M z0 (K145 a0 a1 a2 a3 a4)) (h : zFr M z0 z) : zPw M z0 (fX19_tick_145b N K16 K145 x0 x1 x2 x3 z) := by
  unfold fX19_tick_145b
  exact zw_i (wX19_tick_168 (ztr rfl hM) hK16 h) (zw_k (zw_l (fun y3 => zw_d (fun a4 => zw_c (wX19_doorTurn (ztr rfl hM)  h) (fun _ z6 h1 => zw_l (fun v9 => hK145 _ _ _ _ _ h1))))))
def mX19_tick_145 : Nat := 0x129bff20000000000000000000000000c8208840000000000001200000000000000000000000000000001800000000000000000000078fff1040081000000000000020800000000000002d0000000000000000000000000000000000000000000000000000000000000000000000000000000000000000000000000000000000000000000000000000000000000000000000000000000000000000000000000000000000000000000000000
theorem wX19_tick_145 {M : Nat} {z0 : St} {N : Nat} {K16 : Nat → Int32 → St → Option (Int32 × St)}(hM : mX19_tick_145 &&& M = mX19_tick_145)  (hK16 : ∀ a0 a1 a2, zFr M z0 a2 → zPw M z0 (K16 a0 a1 a2)) : ∀ (n : Nat) (y0 : Nat) (y1 : Int32) (y2 : Nat) (y3 : Int32) (z : St), zFr M z0 z → zPw M z0 (fX19_tick_145 N K16 n y0 y1 y2 y3 z) := by
  intro n
  induction n with
  | zero => intro y0 y1 y2 y3 z h; exact zw_n
  | succ n ih => intro y0 y1 y2 y3 z h; exact wX19_tick_145b (ztr rfl hM) hK16 (fun _ _ _ _ _ h => ih _ _ _ _ _ h) h
def mX19_tick_59b : Nat := 0x529fff2c38f000000000000000000000c8208840000000000001220000000000000000000000000000001800000000000000000000078fff104008100000000000002080000000001c52ad0000000000000000000000000000000000000000000000000000000000000000000000000000000000000000000000000000000000000000000000000000000000000000000000000000000000000000000000000000000000000000000000000
theorem wX19_tick_59b {M : Nat} {N : Nat} {K16 : Nat → Int32 → St → Option (Int32 × St)} {K59 : Nat → Int32 → Nat → Int32 → St → Option (Int32 × St)} {x0 : Nat} {x1 : Int32} {x2 : Nat} {x3 : Int32} {z0 z : St} (hM : mX19_tick_59b &&& M = mX19_tick_59b)  (hK16 : ∀ a0 a1 a2, zFr M z0 a2 → zPw M z0 (K16 a0 a1 a2)) (hK59 : ∀ a0 a1 a2 a3 a4, zFr M z0 a4 → zPw M z0 (K59 a0 a1 a2 a3 a4)) (h : zFr M z0 z) : zPw M z0 (fX19_tick_59b N K16 K59 x0 x1 x2 x3 z) := by
  unfold fX19_tick_59b
  exact zw_i (zw_i (wX19_tick_145 (ztr rfl hM) hK16 _ _ _ _ _ _ h) (zw_c (wX19_neighbours (ztr rfl hM)  h) (fun _ z4 h1 => zw_c (wX19_base (ztr rfl hM)  h1) (fun _ z8 h2 => zw_c (wX19_ownAdvert (ztr rfl hM)  h2) (fun _ z12 h3 => zw_c (wX19_routerSpeaks (ztr rfl hM)  h3) (fun _ z16 h4 => zw_c (wX19_ways (ztr rfl hM)  h4) (fun _ z20 h5 => wX19_tick_168 (ztr rfl hM) hK16 h5))))))) (zw_k (zw_l (fun y24 => zw_d (fun a25 => zw_i (zw_l (fun v27 => hK59 _ _ _ _ _ h)) (zw_c (wX19_endPieces (ztr rfl hM)  h) (fun _ z29 h6 => zw_c (wX19_stir (ztr rfl hM)  h6) (fun _ z33 h7 => hK59 _ _ _ _ _ h7)))))))
def mX19_tick_59 : Nat := 0x529fff2c38f000000000000000000000c8208840000000000001220000000000000000000000000000001800000000000000000000078fff104008100000000000002080000000001c52ad0000000000000000000000000000000000000000000000000000000000000000000000000000000000000000000000000000000000000000000000000000000000000000000000000000000000000000000000000000000000000000000000000
theorem wX19_tick_59 {M : Nat} {z0 : St} {N : Nat} {K16 : Nat → Int32 → St → Option (Int32 × St)}(hM : mX19_tick_59 &&& M = mX19_tick_59)  (hK16 : ∀ a0 a1 a2, zFr M z0 a2 → zPw M z0 (K16 a0 a1 a2)) : ∀ (n : Nat) (y0 : Nat) (y1 : Int32) (y2 : Nat) (y3 : Int32) (z : St), zFr M z0 z → zPw M z0 (fX19_tick_59 N K16 n y0 y1 y2 y3 z) := by
  intro n
  induction n with
  | zero => intro y0 y1 y2 y3 z h; exact zw_n
  | succ n ih => intro y0 y1 y2 y3 z h; exact wX19_tick_59b (ztr rfl hM) hK16 (fun _ _ _ _ _ h => ih _ _ _ _ _ h) h
def mX19_tick_33b : Nat := 0x729fff2c38f000000000000000000000c8208840000000000001220000000000000000000000000000001800000000000000000000078fff104008100000000000002080000000001c52ad0000000000000000000000000000000000000000000000000000000000000000000000000000000000000000000000000000000000000000000000000000000000000000000000000000000000000000000000000000000000000000000000000
theorem wX19_tick_33b {M : Nat} {N : Nat} {K16 : Nat → Int32 → St → Option (Int32 × St)} {K33 : Nat → Int32 → Option Nat → Int32 → St → Option (Int32 × St)} {x0 : Nat} {x1 : Int32} {x2 : Option Nat} {x3 : Int32} {z0 z : St} (hM : mX19_tick_33b &&& M = mX19_tick_33b)  (hK16 : ∀ a0 a1 a2, zFr M z0 a2 → zPw M z0 (K16 a0 a1 a2)) (hK33 : ∀ a0 a1 a2 a3 a4, zFr M z0 a4 → zPw M z0 (K33 a0 a1 a2 a3 a4)) (h : zFr M z0 z) : zPw M z0 (fX19_tick_33b N K16 K33 x0 x1 x2 x3 z) := by
  unfold fX19_tick_33b
  exact zw_d (fun a1 => zw_i (wX19_tick_59 (ztr rfl hM) hK16 _ _ _ _ _ _ h) (zw_k (zw_l (fun y4 => zw_d (fun a5 => zw_c (wX19_askings (ztr rfl hM)  h) (fun _ z7 h1 => zw_l (fun v10 => hK33 _ _ _ _ _ h1)))))))
def mX19_tick_33 : Nat := 0x729fff2c38f000000000000000000000c8208840000000000001220000000000000000000000000000001800000000000000000000078fff104008100000000000002080000000001c52ad0000000000000000000000000000000000000000000000000000000000000000000000000000000000000000000000000000000000000000000000000000000000000000000000000000000000000000000000000000000000000000000000000
theorem wX19_tick_33 {M : Nat} {z0 : St} {N : Nat} {K16 : Nat → Int32 → St → Option (Int32 × St)}(hM : mX19_tick_33 &&& M = mX19_tick_33)  (hK16 : ∀ a0 a1 a2, zFr M z0 a2 → zPw M z0 (K16 a0 a1 a2)) : ∀ (n : Nat) (y0 : Nat) (y1 : Int32) (y2 : Option Nat) (y3 : Int32) (z : St), zFr M z0 z → zPw M z0 (fX19_tick_33 N K16 n y0 y1 y2 y3 z) := by
  intro n
  induction n with
  | zero => intro y0 y1 y2 y3 z h; exact zw_n
  | succ n ih => intro y0 y1 y2 y3 z h; exact wX19_tick_33b (ztr rfl hM) hK16 (fun _ _ _ _ _ h => ih _ _ _ _ _ h) h
def mX19_tick_16b : Nat := 0x729fff2c38f000000000000000000000c8208840000000000001220000000000000000000000000000001800000000000000000000078fff104008100000000000002080000000001c52ad0000000000000000000000000000000000000000000000000000000000000000000000000000000000000000000000000000000000000000000000000000000000000000000000000000000000000000000000000000000000000000000000000
theorem wX19_tick_16b {M : Nat} {N : Nat} {K16 : Nat → Int32 → St → Option (Int32 × St)} {x0 : Nat} {x1 : Int32} {z0 z : St} (hM : mX19_tick_16b &&& M = mX19_tick_16b)  (hK16 : ∀ a0 a1 a2, zFr M z0 a2 → zPw M z0 (K16 a0 a1 a2)) (h : zFr M z0 z) : zPw M z0 (fX19_tick_16b N K16 x0 x1 z) := by
  unfold fX19_tick_16b
  exact zw_i (zw_s h) (zw_k (zw_l (fun y3 => wX19_tick_33 (ztr rfl hM) hK16 _ _ _ _ _ _ h)))
def mX19_tick_16 : Nat := 0x729fff2c38f000000000000000000000c8208840000000000001220000000000000000000000000000001800000000000000000000078fff104008100000000000002080000000001c52ad0000000000000000000000000000000000000000000000000000000000000000000000000000000000000000000000000000000000000000000000000000000000000000000000000000000000000000000000000000000000000000000000000
theorem wX19_tick_16 {M : Nat} {z0 : St} {N : Nat}(hM : mX19_tick_16 &&& M = mX19_tick_16)  : ∀ (n : Nat) (y0 : Nat) (y1 : Int32) (z : St), zFr M z0 z → zPw M z0 (fX19_tick_16 N n y0 y1 z) := by
  intro n
  induction n with
  | zero => intro y0 y1 z h; exact zw_n
  | succ n ih => intro y0 y1 z h; exact wX19_tick_16b (ztr rfl hM)  (fun _ _ _ h => ih _ _ _ h) h
def mX19_tick : Nat := 0x73dfffef3ff000000000000000000000d8208840000000000001220000000000000003f0000000000000380000000000000000f00007fffffe7fbff00000000000003e80000000001c72bf0000000000000000000000000000000000000000000000000000000000000000000000000000000000000000000000000000000000000000000000000000000000000000000000000000000000000000000000000000000000000000000000000
theorem wX19_tick {M : Nat} {N : Nat} {x0 : Nat} {z0 z : St} (hM : mX19_tick &&& M = mX19_tick)  (h : zFr M z0 z) : zPw M z0 (fX19_tick N x0 z) := by
  unfold fX19_tick
  exact zw_lI h (ztb hM rfl) (fun z1 h1 => zw_c (wX19_arriveAll (ztr rfl hM)  h1) (fun _ z3 h2 => wX19_tick_16 (ztr rfl hM)  _ _ _ _ h2))
def mX19_isBox : Nat := 0x0
theorem wX19_isBox {M : Nat} {N : Nat} {x0 : Nat} {x1 : Int32} {z0 z : St} (hM : mX19_isBox &&& M = mX19_isBox)  (h : zFr M z0 z) : zPw M z0 (fX19_isBox N x0 x1 z) := by
  unfold fX19_isBox
  exact zw_i (zw_s h) (zw_i (zw_s h) (zw_s h))
def mX19_isHost : Nat := 0x0
theorem wX19_isHost {M : Nat} {N : Nat} {x0 : Nat} {x1 : Int32} {z0 z : St} (hM : mX19_isHost &&& M = mX19_isHost)  (h : zFr M z0 z) : zPw M z0 (fX19_isHost N x0 x1 z) := by
  unfold fX19_isHost
  exact zw_c (wX19_isBox (ztr rfl hM)  h) (fun r1 z2 h1 => zw_i (zw_s h1) (zw_k (zw_l (fun y7 => zw_d (fun a8 => zw_i (zw_s h1) (zw_s h1))))))
def mX19_isRouter : Nat := 0x0
theorem wX19_isRouter {M : Nat} {N : Nat} {x0 : Nat} {x1 : Int32} {z0 z : St} (hM : mX19_isRouter &&& M = mX19_isRouter)  (h : zFr M z0 z) : zPw M z0 (fX19_isRouter N x0 x1 z) := by
  unfold fX19_isRouter
  exact zw_c (wX19_isBox (ztr rfl hM)  h) (fun r1 z2 h1 => zw_i (zw_s h1) (zw_k (zw_l (fun y7 => zw_d (fun a8 => zw_i (zw_s h1) (zw_s h1))))))
def mX19_isNet : Nat := 0x0
theorem wX19_isNet {M : Nat} {N : Nat} {x0 : Nat} {x1 : Int32} {z0 z : St} (hM : mX19_isNet &&& M = mX19_isNet)  (h : zFr M z0 z) : zPw M z0 (fX19_isNet N x0 x1 z) := by
  unfold fX19_isNet
  exact zw_i (zw_s h) (zw_i (zw_s h) (zw_s h))
def mX19_isDoor : Nat := 0x0
theorem wX19_isDoor {M : Nat} {N : Nat} {x0 : Nat} {x1 : Int32} {x2 : Int32} {z0 z : St} (hM : mX19_isDoor &&& M = mX19_isDoor)  (h : zFr M z0 z) : zPw M z0 (fX19_isDoor N x0 x1 x2 z) := by
  unfold fX19_isDoor
  exact zw_c (wX19_isHost (ztr rfl hM)  h) (fun r1 z2 h1 => zw_i (zw_s h1) (zw_i (zw_s h1) (zw_i (zw_s h1) (zw_s h1))))
def mX19_fails_18 : Nat := 0x20000000000000000000000000000000000000000000000000000000000000000000000000000000000000000000000000000000000000000000000000000000000000000000000000000000000000000000000000000000000000000000000000000000000000000000000000000000000000000000000000000000000000000000000000000000000000000000000000000000000000000000000
theorem wX19_fails_18 {M : Nat} {N : Nat} {x0 : Nat} {s0 : Nat} {s1 : Int32} {z0 z : St} (hM : mX19_fails_18 &&& M = mX19_fails_18)  (h : zFr M z0 z) : zPw M z0 (fX19_fails_18 N x0 s0 s1 z) := by
  unfold fX19_fails_18
  exact zw_lI h (ztb hM rfl) (fun z1 h1 => zw_i (zw_s h1) (zw_s h1))
def mX19_fails : Nat := 0x20000000000000000000000000000000000000000000000000000000000000000000000000000000000000000000000000000000000000000000000000000000000000000000000000000000000000000000000000000000000000000000000000000000000000000000000000000000000000000000000000000000000000000000000000000000000000000000000000000000000000000000000
theorem wX19_fails {M : Nat} {N : Nat} {x0 : Nat} {x1 : Int32} {x2 : Int32} {z0 z : St} (hM : mX19_fails &&& M = mX19_fails)  (h : zFr M z0 z) : zPw M z0 (fX19_fails N x0 x1 x2 z) := by
  unfold fX19_fails
  exact zw_i (zw_i (wX19_fails_18 (ztr rfl hM)  h) (wX19_fails_18 (ztr rfl hM)  h)) (wX19_fails_18 (ztr rfl hM)  h)
def mX19_portOn_10b : Nat := 0x0
theorem wX19_portOn_10b {M : Nat} {N : Nat} {K10 : Int32 → Option Nat → Int32 → St → Option (Option Nat × St)} {x2 : Int32} {x3 : Option Nat} {x4 : Int32} {z0 z : St} (hM : mX19_portOn_10b &&& M = mX19_portOn_10b)  (hK10 : ∀ a0 a1 a2 a3, zFr M z0 a3 → zPw M z0 (K10 a0 a1 a2 a3)) (h : zFr M z0 z) : zPw M z0 (fX19_portOn_10b N K10 x2 x3 x4 z) := by
  unfold fX19_portOn_10b
  exact zw_d (fun a1 => zw_i (zw_s h) (zw_k (zw_l (fun y4 => zw_d (fun a5 => zw_l (fun y6 => zw_d (fun a7 => zw_i (zw_l (fun v9 => hK10 _ _ _ _ h)) (zw_k (zw_l (fun y11 => zw_s h))))))))))
def mX19_portOn_10 : Nat := 0x0
theorem wX19_portOn_10 {M : Nat} {z0 : St} {N : Nat}(hM : mX19_portOn_10 &&& M = mX19_portOn_10)  : ∀ (n : Nat) (y0 : Int32) (y1 : Option Nat) (y2 : Int32) (z : St), zFr M z0 z → zPw M z0 (fX19_portOn_10 N n y0 y1 y2 z) := by
  intro n
  induction n with
  | zero => intro y0 y1 y2 z h; exact zw_n
  | succ n ih => intro y0 y1 y2 z h; exact wX19_portOn_10b (ztr rfl hM)  (fun _ _ _ _ h => ih _ _ _ _ h) h
def mX19_portOn : Nat := 0x0
theorem wX19_portOn {M : Nat} {N : Nat} {x0 : Nat} {x1 : Int32} {x2 : Int32} {z0 z : St} (hM : mX19_portOn &&& M = mX19_portOn)  (h : zFr M z0 z) : zPw M z0 (fX19_portOn N x0 x1 x2 z) := by
  unfold fX19_portOn
  exact zw_k (zw_l (fun y2 => wX19_portOn_10 (ztr rfl hM)  _ _ _ _ _ h))
def mX19_cost_43 : Nat := 0xa0000000000000000000010000000000000000000000000000000000000000000000000000000000000000000000000000000000000000001800000000000000000000000000000000000000000000000000000000000000000000000000000000000000000000000000000000000000000000000000000000000000000000000000000000000000000000000000000000000000000000000000000
theorem wX19_cost_43 {M : Nat} {N : Nat} {x0 : Nat} {x1 : Int32} {x2 : Int32} {x3 : Int32} {s0 : Nat} {s1 : Int32} {z0 z : St} (hM : mX19_cost_43 &&& M = mX19_cost_43)  (h : zFr M z0 z) : zPw M z0 (fX19_cost_43 N x0 x1 x2 x3 s0 s1 z) := by
  unfold fX19_cost_43
  exact zw_c (wX19_fails (ztr rfl hM)  h) (fun r1 z2 h1 => zw_i (zw_c (wX19_portOn (ztr rfl hM)  h1) (fun r6 z7 h2 => zw_d (fun a10 => zw_l (fun v11 => zw_lI h2 (ztb hM rfl) (fun z12 h3 => zw_l (fun y13 => zw_d (fun a14 => zw_lI h3 (ztb hM rfl) (fun z15 h4 => zw_l (fun y16 => zw_d (fun a17 => zw_lI h4 (ztb hM rfl) (fun z18 h5 => zw_i (zw_s h5) (zw_c (wX19_stir (ztr rfl hM)  h5) (fun _ z21 h6 => zw_s h6))))))))))))) (zw_s h1))
def mX19_cost_38 : Nat := 0xa0000000000000000000010000000000000000000000000000000000000000000000000000000000000000000000000000000000000000001800000000000000000000000000000000000000000000000000000000000000000000000000000000000000000000000000000000000000000000000000000000000000000000000000000000000000000000000000000000000000000000000000000
theorem wX19_cost_38 {M : Nat} {N : Nat} {x0 : Nat} {x1 : Int32} {x2 : Int32} {x3 : Int32} {s0 : Nat} {z0 z : St} (hM : mX19_cost_38 &&& M = mX19_cost_38)  (h : zFr M z0 z) : zPw M z0 (fX19_cost_38 N x0 x1 x2 x3 s0 z) := by
  unfold fX19_cost_38
  exact wX19_cost_43 (ztr rfl hM)  h
def mX19_cost : Nat := 0xa0000000000000000000010000000000000000000000000000000000000000000000000000000000000000000000000000000000000000001800000000000000000000000000000000000000000000000000000000000000000000000000000000000000000000000000000000000000000000000000000000000000000000000000000000000000000000000000000000000000000000000000000
theorem wX19_cost {M : Nat} {N : Nat} {x0 : Nat} {x1 : Int32} {x2 : Int32} {x3 : Int32} {z0 z : St} (hM : mX19_cost &&& M = mX19_cost)  (h : zFr M z0 z) : zPw M z0 (fX19_cost N x0 x1 x2 x3 z) := by
  unfold fX19_cost
  exact zw_c (wX19_isRouter (ztr rfl hM)  h) (fun r1 z2 h1 => zw_i (wX19_cost_38 (ztr rfl hM)  h1) (zw_c (wX19_isNet (ztr rfl hM)  h1) (fun r6 z7 h2 => zw_i (wX19_cost_38 (ztr rfl hM)  h2) (zw_c (wX19_portOn (ztr rfl hM)  h2) (fun r11 z12 h3 => zw_o (wX19_cost_38 (ztr rfl hM)  h3) (fun a16 => zw_i (wX19_cost_38 (ztr rfl hM)  h3) (zw_i (wX19_cost_43 (ztr rfl hM)  h3) (wX19_cost_38 (ztr rfl hM)  h3))))))))
def mX19_link_112 : Nat := 0x0
theorem wX19_link_112 {M : Nat} {N : Nat} {K53 : Nat → Int32 → Int32 → Int32 → Int32 → St → Option (Int32 × St)} {x0 : Nat} {x1 : Int32} {x2 : Int32} {x4 : Int32} {x5 : Int32} {z0 z : St} (hM : mX19_link_112 &&& M = mX19_link_112)  (hK53 : ∀ a0 a1 a2 a3 a4 a5, zFr M z0 a5 → zPw M z0 (K53 a0 a1 a2 a3 a4 a5)) (h : zFr M z0 z) : zPw M z0 (fX19_link_112 N K53 x0 x1 x2 x4 x5 z) := by
  unfold fX19_link_112
  exact hK53 _ _ _ _ _ _ h
def mX19_link_121 : Nat := 0x80000000000000000000000000000000000000000000000000000000000000000000000000000000000000000000000000000000000000000000000000000000000000000000000000000000000000000000000000000000000000000000000000000000000000000000000000000000000000000000000000000000000000000000000000000000000000000000000000000000000000000000000
theorem wX19_link_121 {M : Nat} {N : Nat} {x0 : Nat} {x4 : Int32} {z0 z : St} (hM : mX19_link_121 &&& M = mX19_link_121)  (h : zFr M z0 z) : zPw M z0 (fX19_link_121 N x0 x4 z) := by
  unfold fX19_link_121
  exact zw_i (zw_q (zw_s h)) (zw_c (wX19_stir (ztr rfl hM)  h) (fun _ z4 h1 => zw_q (zw_s h1)))
def mX19_link_53b : Nat := 0x129b200000000000000000000000000088208840000000000000000000000000000000000000000000000000000000000000000000000000000000000000000000000000000000000000000000000000000000000000000000000000000000000000000000000000000000000000000000000000000000000000000000000000000000000000000000000000000000000000000000000000000000000000000000000000000000000000000
theorem wX19_link_53b {M : Nat} {N : Nat} {K53 : Nat → Int32 → Int32 → Int32 → Int32 → St → Option (Int32 × St)} {x0 : Nat} {x1 : Int32} {x2 : Int32} {x4 : Int32} {x5 : Int32} {z0 z : St} (hM : mX19_link_53b &&& M = mX19_link_53b)  (hK53 : ∀ a0 a1 a2 a3 a4 a5, zFr M z0 a5 → zPw M z0 (K53 a0 a1 a2 a3 a4 a5)) (h : zFr M z0 z) : zPw M z0 (fX19_link_53b N K53 x0 x1 x2 x4 x5 z) := by
  unfold fX19_link_53b
  exact zw_i (wX19_link_121 (ztr rfl hM)  h) (zw_i (wX19_link_121 (ztr rfl hM)  h) (zw_k (zw_i (zw_l (fun v5 => hK53 _ _ _ _ _ _ h)) (zw_k (zw_l (fun v7 => zw_c (wX19_takeFrame (ztr rfl hM)  h) (fun _ z9 h1 => zw_i (wX19_link_112 (ztr rfl hM) hK53 h1) (zw_c (wX19_drop (ztr rfl hM)  h1) (fun _ z14 h2 => wX19_link_112 (ztr rfl hM) hK53 h2)))))))))
def mX19_link_53 : Nat := 0x129b200000000000000000000000000088208840000000000000000000000000000000000000000000000000000000000000000000000000000000000000000000000000000000000000000000000000000000000000000000000000000000000000000000000000000000000000000000000000000000000000000000000000000000000000000000000000000000000000000000000000000000000000000000000000000000000000000
theorem wX19_link_53 {M : Nat} {z0 : St} {N : Nat}(hM : mX19_link_53 &&& M = mX19_link_53)  : ∀ (n : Nat) (y0 : Nat) (y1 : Int32) (y2 : Int32) (y3 : Int32) (y4 : Int32) (z : St), zFr M z0 z → zPw M z0 (fX19_link_53 N n y0 y1 y2 y3 y4 z) := by
  intro n
  induction n with
  | zero => intro y0 y1 y2 y3 y4 z h; exact zw_n
  | succ n ih => intro y0 y1 y2 y3 y4 z h; exact wX19_link_53b (ztr rfl hM)  (fun _ _ _ _ _ _ h => ih _ _ _ _ _ _ h) h
def mX19_link_43 : Nat := 0x129b200000000000000000000000000088208840000000000000000000000000000000000000000000000080000000000000000000000000000000000000000000000000000000000000000000000000000000000000000000000000000000000000000000000000000000000000000000000000000000000000000000000000000000000000000000000000000000000000000000000000000000000000000000000000000000000000000
theorem wX19_link_43 {M : Nat} {N : Nat} {x0 : Nat} {x1 : Int32} {x2 : Int32} {x3 : Nat} {s0 : Int32} {z0 z : St} (hM : mX19_link_43 &&& M = mX19_link_43)  (h : zFr M z0 z) : zPw M z0 (fX19_link_43 N x0 x1 x2 x3 s0 z) := by
  unfold fX19_link_43
  exact zw_q (zw_lI h (ztb hM rfl) (fun z1 h1 => wX19_link_53 (ztr rfl hM)  _ _ _ _ _ _ _ h1))
def mX19_link_14 : Nat := 0x129b2000000000000000000000000000a8208840000000000000000000000000000000000000000000000080000000000000000000000000000000000000000000000000000000000000000000000000000000000000000000000000000000000000000000000000000000000000000000000000000000000000000000000000000000000000000000000000000000000000000000000000000000000000000000000000000000000000000
theorem wX19_link_14 {M : Nat} {N : Nat} {x0 : Nat} {x1 : Int32} {x2 : Int32} {s0 : Nat} {s1 : Int32} {z0 z : St} (hM : mX19_link_14 &&& M = mX19_link_14)  (h : zFr M z0 z) : zPw M z0 (fX19_link_14 N x0 x1 x2 s0 s1 z) := by
  unfold fX19_link_14
  exact zw_c (wX19_fails (ztr rfl hM)  h) (fun r1 z2 h1 => zw_i (zw_k (zw_l (fun y7 => zw_d (fun a8 => zw_i (wX19_link_43 (ztr rfl hM)  h1) (wX19_link_43 (ztr rfl hM)  h1))))) (zw_s h1))
def mX19_link : Nat := 0x129b2000000000000000000000000000a8208840000000000000000000000000000000000000000000000080000000000000000000000000000000000000000000000000000000000000000000000000000000000000000000000000000000000000000000000000000000000000000000000000000000000000000000000000000000000000000000000000000000000000000000000000000000000000000000000000000000000000000
theorem wX19_link {M : Nat} {N : Nat} {x0 : Nat} {x1 : Int32} {x2 : Int32} {z0 z : St} (hM : mX19_link &&& M = mX19_link)  (h : zFr M z0 z) : zPw M z0 (fX19_link N x0 x1 x2 z) := by
  unfold fX19_link
  exact zw_c (wX19_isNet (ztr rfl hM)  h) (fun r1 z2 h1 => zw_i (wX19_link_14 (ztr rfl hM)  h1) (wX19_link_14 (ztr rfl hM)  h1))
def mX19_fates_76b : Nat := 0x2000000000000000000000000000000000000000000000000000000000000000000000000000000800000000000000000000000000000000000000000000000000000000000000000000000000000000000000000000000000000000000000000000000000000000000000000000000000000000000000000000000000000000000000000000000000000000000000000000000000000000000000000000000000000000000000000
theorem wX19_fates_76b {M : Nat} {N : Nat} {K76 : Int64 → Int32 → Option Nat → Int32 → St → Option (Int32 × St)} {x2 : Int64} {x4 : Int32} {x5 : Option Nat} {x6 : Int32} {z0 z : St} (hM : mX19_fates_76b &&& M = mX19_fates_76b)  (hK76 : ∀ a0 a1 a2 a3 a4, zFr M z0 a4 → zPw M z0 (K76 a0 a1 a2 a3 a4)) (h : zFr M z0 z) : zPw M z0 (fX19_fates_76b N K76 x2 x4 x5 x6 z) := by
  unfold fX19_fates_76b
  exact zw_i (zw_d (fun a2 => zw_s h)) (zw_d (fun a3 => zw_k (zw_lA h (ztb hM rfl) (fun z5 h1 => zw_lI h1 (ztb hM rfl) (fun z6 h2 => zw_l (fun v7 => hK76 _ _ _ _ _ h2))))))
def mX19_fates_76 : Nat := 0x2000000000000000000000000000000000000000000000000000000000000000000000000000000800000000000000000000000000000000000000000000000000000000000000000000000000000000000000000000000000000000000000000000000000000000000000000000000000000000000000000000000000000000000000000000000000000000000000000000000000000000000000000000000000000000000000000
theorem wX19_fates_76 {M : Nat} {z0 : St} {N : Nat}(hM : mX19_fates_76 &&& M = mX19_fates_76)  : ∀ (n : Nat) (y0 : Int64) (y1 : Int32) (y2 : Option Nat) (y3 : Int32) (z : St), zFr M z0 z → zPw M z0 (fX19_fates_76 N n y0 y1 y2 y3 z) := by
  intro n
  induction n with
  | zero => intro y0 y1 y2 y3 z h; exact zw_n
  | succ n ih => intro y0 y1 y2 y3 z h; exact wX19_fates_76b (ztr rfl hM)  (fun _ _ _ _ _ h => ih _ _ _ _ _ h) h
def mX19_fates_57 : Nat := 0x2000000000000000000000000020000000000000000000000000000000000000000000000000000800000000000000000000000000000000000000000000000000000000000000000000000000000000000000000000000000000000000000000000000000000000000000000000000000000000000000000000000000000000000000000000000000000000000000000000000000000000000000000000000000000000000000000
theorem wX19_fates_57 {M : Nat} {N : Nat} {x0 : Nat} {x1 : Int32} {x2 : Int64} {x4 : Int32} {s0 : Nat} {s1 : Int32} {s2 : Int32} {z0 z : St} (hM : mX19_fates_57 &&& M = mX19_fates_57)  (h : zFr M z0 z) : zPw M z0 (fX19_fates_57 N x0 x1 x2 x4 s0 s1 s2 z) := by
  unfold fX19_fates_57
  exact zw_c (wX19_fails (ztr rfl hM)  h) (fun r1 z2 h1 => zw_i (zw_k (zw_l (fun y7 => wX19_fates_76 (ztr rfl hM)  _ _ _ _ _ _ h1))) (zw_s h1))
def mX19_fates_56 : Nat := 0x2000000000000000000000000020000000000000000000000000000000000000000000000000000800000000000000000000000000000000000000000000000000000000000000000000000000000000000000000000000000000000000000000000000000000000000000000000000000000000000000000000000000000000000000000000000000000000000000000000000000000000000000000000000000000000000000000
theorem wX19_fates_56 {M : Nat} {N : Nat} {x0 : Nat} {x1 : Int32} {x2 : Int64} {x4 : Int32} {s0 : Nat} {s1 : Int32} {z0 z : St} (hM : mX19_fates_56 &&& M = mX19_fates_56)  (h : zFr M z0 z) : zPw M z0 (fX19_fates_56 N x0 x1 x2 x4 s0 s1 z) := by
  unfold fX19_fates_56
  exact wX19_fates_57 (ztr rfl hM)  h
def mX19_fates_27 : Nat := 0x2000000000000000000000000020000000000000000000000000000000000000000000000000000800000000000000000000000000000000000000000000000000000000000000000000000000000000000000000000000000000000000000000000000000000000000000000000000000000000000000000000000000000000000000000000000000000000000000000000000000000000000000000000000000000000000000000
theorem wX19_fates_27 {M : Nat} {N : Nat} {x0 : Nat} {x1 : Int32} {x2 : Int64} {x4 : Int32} {s0 : Nat} {s1 : Int32} {z0 z : St} (hM : mX19_fates_27 &&& M = mX19_fates_27)  (h : zFr M z0 z) : zPw M z0 (fX19_fates_27 N x0 x1 x2 x4 s0 s1 z) := by
  unfold fX19_fates_27
  exact zw_c (wX19_isNet (ztr rfl hM)  h) (fun r1 z2 h1 => zw_i (wX19_fates_56 (ztr rfl hM)  h1) (zw_k (zw_l (fun y7 => zw_d (fun a8 => zw_i (wX19_fates_56 (ztr rfl hM)  h1) (wX19_fates_57 (ztr rfl hM)  h1))))))
def mX19_fates_22 : Nat := 0x2000000000000000000000000020000000000000000000000000000000000000000000000000000800000000000000000000000000000000000000000000000000000000000000000000000000000000000000000000000000000000000000000000000000000000000000000000000000000000000000000000000000000000000000000000000000000000000000000000000000000000000000000000000000000000000000000
theorem wX19_fates_22 {M : Nat} {N : Nat} {x0 : Nat} {x1 : Int32} {x2 : Int64} {x4 : Int32} {s0 : Nat} {z0 z : St} (hM : mX19_fates_22 &&& M = mX19_fates_22)  (h : zFr M z0 z) : zPw M z0 (fX19_fates_22 N x0 x1 x2 x4 s0 z) := by
  unfold fX19_fates_22
  exact wX19_fates_27 (ztr rfl hM)  h
def mX19_fates : Nat := 0x2000000000000000000000000020000000000000000000000000000000000000000000000000000800000000000000000000000000000000000000000000000000000000000000000000000000000000000000000000000000000000000000000000000000000000000000000000000000000000000000000000000000000000000000000000000000000000000000000000000000000000000000000000000000000000000000000
theorem wX19_fates {M : Nat} {N : Nat} {x0 : Nat} {x1 : Int32} {x2 : Int64} {x4 : Int32} {z0 z : St} (hM : mX19_fates &&& M = mX19_fates)  (h : zFr M z0 z) : zPw M z0 (fX19_fates N x0 x1 x2 x4 z) := by
  unfold fX19_fates
  exact zw_c (wX19_isNet (ztr rfl hM)  h) (fun r1 z2 h1 => zw_i (wX19_fates_22 (ztr rfl hM)  h1) (zw_i (wX19_fates_22 (ztr rfl hM)  h1) (zw_i (wX19_fates_27 (ztr rfl hM)  h1) (wX19_fates_22 (ztr rfl hM)  h1))))
def mX19_run_45b : Nat := 0x73dfffef3ff000000000000000000000d8208840000000000001220000000000000003f0000000000000380000000000000000f00007fffffe7fbff00000000000003e80000000001c72bf0000000000000000000000000000000000000000000000000000000000000000000000000000000000000000000000000000000000000000000000000000000000000000000000000000000000000000000000000000000000000000000000000
theorem wX19_run_45b {M : Nat} {N : Nat} {K45 : Nat → Int32 → Int32 → St → Option (Int32 × St)} {x0 : Nat} {x1 : Int32} {x2 : Int32} {z0 z : St} (hM : mX19_run_45b &&& M = mX19_run_45b)  (hK45 : ∀ a0 a1 a2 a3, zFr M z0 a3 → zPw M z0 (K45 a0 a1 a2 a3)) (h : zFr M z0 z) : zPw M z0 (fX19_run_45b N K45 x0 x1 x2 z) := by
  unfold fX19_run_45b
  exact zw_i (zw_s h) (zw_c (wX19_tick (ztr rfl hM)  h) (fun _ z3 h1 => zw_l (fun v6 => hK45 _ _ _ _ h1)))
def mX19_run_45 : Nat := 0x73dfffef3ff000000000000000000000d8208840000000000001220000000000000003f0000000000000380000000000000000f00007fffffe7fbff00000000000003e80000000001c72bf0000000000000000000000000000000000000000000000000000000000000000000000000000000000000000000000000000000000000000000000000000000000000000000000000000000000000000000000000000000000000000000000000
theorem wX19_run_45 {M : Nat} {z0 : St} {N : Nat}(hM : mX19_run_45 &&& M = mX19_run_45)  : ∀ (n : Nat) (y0 : Nat) (y1 : Int32) (y2 : Int32) (z : St), zFr M z0 z → zPw M z0 (fX19_run_45 N n y0 y1 y2 z) := by
  intro n
  induction n with
  | zero => intro y0 y1 y2 z h; exact zw_n
  | succ n ih => intro y0 y1 y2 z h; exact wX19_run_45b (ztr rfl hM)  (fun _ _ _ _ h => ih _ _ _ _ h) h
def mX19_run_35 : Nat := 0x73dfffef3ff000000000000000000000f8208840000000000001220000000000000003f0000000000000380000000000000000f00007fffffe7fbff00000000000003e80000000001c72bf0000000000000000000000000000000000000000000000000000000000000000000000000000000000000000000000000000000000000000000000000000000000000000000000000000000000000000000000000000000000000000000000000
theorem wX19_run_35 {M : Nat} {N : Nat} {x0 : Nat} {x1 : Int32} {s0 : Nat} {s1 : Int32} {s2 : Int32} {z0 z : St} (hM : mX19_run_35 &&& M = mX19_run_35)  (h : zFr M z0 z) : zPw M z0 (fX19_run_35 N x0 x1 s0 s1 s2 z) := by
  unfold fX19_run_35
  exact zw_c (wX19_fails (ztr rfl hM)  h) (fun r1 z2 h1 => zw_i (wX19_run_45 (ztr rfl hM)  _ _ _ _ _ h1) (zw_s h1))
def mX19_run_18 : Nat := 0x73dfffef3ff000000000000000000000f8208840000000000001220000000000000003f0000000000000380000000000000000f00007fffffe7fbff00000000000003e80000000001c72bf0000000000000000000000000000000000000000000000000000000000000000000000000000000000000000000000000000000000000000000000000000000000000000000000000000000000000000000000000000000000000000000000000
theorem wX19_run_18 {M : Nat} {N : Nat} {x0 : Nat} {x1 : Int32} {s0 : Nat} {s1 : Int32} {z0 z : St} (hM : mX19_run_18 &&& M = mX19_run_18)  (h : zFr M z0 z) : zPw M z0 (fX19_run_18 N x0 x1 s0 s1 z) := by
  unfold fX19_run_18
  exact zw_i (wX19_run_35 (ztr rfl hM)  h) (wX19_run_35 (ztr rfl hM)  h)
def mX19_run_13 : Nat := 0x73dfffef3ff000000000000000000000f8208840000000000001220000000000000003f0000000000000380000000000000000f00007fffffe7fbff00000000000003e80000000001c72bf0000000000000000000000000000000000000000000000000000000000000000000000000000000000000000000000000000000000000000000000000000000000000000000000000000000000000000000000000000000000000000000000000
theorem wX19_run_13 {M : Nat} {N : Nat} {x0 : Nat} {x1 : Int32} {s0 : Nat} {z0 z : St} (hM : mX19_run_13 &&& M = mX19_run_13)  (h : zFr M z0 z) : zPw M z0 (fX19_run_13 N x0 x1 s0 z) := by
  unfold fX19_run_13
  exact wX19_run_18 (ztr rfl hM)  h
def mX19_run : Nat := 0x73dfffef3ff000000000000000000000f8208840000000000001220000000000000003f0000000000000380000000000000000f00007fffffe7fbff00000000000003e80000000001c72bf0000000000000000000000000000000000000000000000000000000000000000000000000000000000000000000000000000000000000000000000000000000000000000000000000000000000000000000000000000000000000000000000000
theorem wX19_run {M : Nat} {N : Nat} {x0 : Nat} {x1 : Int32} {z0 z : St} (hM : mX19_run &&& M = mX19_run)  (h : zFr M z0 z) : zPw M z0 (fX19_run N x0 x1 z) := by
  unfold fX19_run
  exact zw_i (wX19_run_13 (ztr rfl hM)  h) (zw_i (wX19_run_18 (ztr rfl hM)  h) (wX19_run_13 (ztr rfl hM)  h))
def mX19_listen_105 : Nat := 0x0
theorem wX19_listen_105 {M : Nat} {N : Nat} {K59 : Nat → Int32 → Int32 → Option Nat → Int32 → Int32 → St → Option (Int32 × St)} {x0 : Nat} {x2 : Int32} {x3 : Int32} {x4 : Option Nat} {x6 : Int32} {s0 : Int32} {z0 z : St} (hM : mX19_listen_105 &&& M = mX19_listen_105)  (hK59 : ∀ a0 a1 a2 a3 a4 a5 a6, zFr M z0 a6 → zPw M z0 (K59 a0 a1 a2 a3 a4 a5 a6)) (h : zFr M z0 z) : zPw M z0 (fX19_listen_105 N K59 x0 x2 x3 x4 x6 s0 z) := by
  unfold fX19_listen_105
  exact zw_l (fun v1 => hK59 _ _ _ _ _ _ _ h)
def mX19_listen_100 : Nat := 0x0
theorem wX19_listen_100 {M : Nat} {N : Nat} {K59 : Nat → Int32 → Int32 → Option Nat → Int32 → Int32 → St → Option (Int32 × St)} {x0 : Nat} {x2 : Int32} {x3 : Int32} {x4 : Option Nat} {x6 : Int32} {z0 z : St} (hM : mX19_listen_100 &&& M = mX19_listen_100)  (hK59 : ∀ a0 a1 a2 a3 a4 a5 a6, zFr M z0 a6 → zPw M z0 (K59 a0 a1 a2 a3 a4 a5 a6)) (h : zFr M z0 z) : zPw M z0 (fX19_listen_100 N K59 x0 x2 x3 x4 x6 z) := by
  unfold fX19_listen_100
  exact wX19_listen_105 (ztr rfl hM) hK59 h
def mX19_listen_104 : Nat := 0x0
theorem wX19_listen_104 {M : Nat} {N : Nat} {K59 : Nat → Int32 → Int32 → Option Nat → Int32 → Int32 → St → Option (Int32 × St)} {x0 : Nat} {x2 : Int32} {x3 : Int32} {x4 : Nat} {x6 : Int32} {z0 z : St} (hM : mX19_listen_104 &&& M = mX19_listen_104)  (hK59 : ∀ a0 a1 a2 a3 a4 a5 a6, zFr M z0 a6 → zPw M z0 (K59 a0 a1 a2 a3 a4 a5 a6)) (h : zFr M z0 z) : zPw M z0 (fX19_listen_104 N K59 x0 x2 x3 x4 x6 z) := by
  unfold fX19_listen_104
  exact wX19_listen_105 (ztr rfl hM) hK59 h
def mX19_listen_138 : Nat := 0xa0000000000000000000000000000000000000000000000000000000000000000000000000000000000000000000000000000070000000000000000000000000000000000000000000000000000000000000000000000000000000000000000000000000000000000000000000000000000000000000000000000000000000000000000000000000000000000000000000000000000000000000000
theorem wX19_listen_138 {M : Nat} {N : Nat} {x0 : Nat} {x2 : Int32} {x3 : Int32} {x4 : Nat} {x6 : Int32} {s0 : Nat} {s1 : Int32} {s2 : Int32} {z0 z : St} (hM : mX19_listen_138 &&& M = mX19_listen_138)  (h : zFr M z0 z) : zPw M z0 (fX19_listen_138 N x0 x2 x3 x4 x6 s0 s1 s2 z) := by
  unfold fX19_listen_138
  exact zw_c (wX19_fails (ztr rfl hM)  h) (fun r1 z2 h1 => zw_i (zw_k (zw_l (fun y7 => zw_d (fun a8 => zw_lI h1 (ztb hM rfl) (fun z9 h2 => zw_k (zw_l (fun y11 => zw_d (fun a12 => zw_lI h2 (ztb hM rfl) (fun z13 h3 => zw_k (zw_l (fun y15 => zw_d (fun a16 => zw_lI h3 (ztb hM rfl) (fun z17 h4 => zw_c (wX19_stir (ztr rfl hM)  h4) (fun _ z19 h5 => zw_s h5)))))))))))))) (zw_s h1))
def mX19_listen_133 : Nat := 0xa0000000000000000000000000000000000000000000000000000000000000000000000000000000000000000000000000000070000000000000000000000000000000000000000000000000000000000000000000000000000000000000000000000000000000000000000000000000000000000000000000000000000000000000000000000000000000000000000000000000000000000000000
theorem wX19_listen_133 {M : Nat} {N : Nat} {x0 : Nat} {x2 : Int32} {x3 : Int32} {x4 : Nat} {x6 : Int32} {s0 : Nat} {s1 : Int32} {z0 z : St} (hM : mX19_listen_133 &&& M = mX19_listen_133)  (h : zFr M z0 z) : zPw M z0 (fX19_listen_133 N x0 x2 x3 x4 x6 s0 s1 z) := by
  unfold fX19_listen_133
  exact wX19_listen_138 (ztr rfl hM)  h
def mX19_listen_59b : Nat := 0xa0000000000000000000000000000000000000000000000000000000000000000000000000000000000000000000000000000070000000000000000000000000000000000000000000000000000000000000000000000000000000000000000000000000000000000000000000000000000000000000000000000000000000000000000000000000000000000000000000000000000000000000000
theorem wX19_listen_59b {M : Nat} {N : Nat} {K59 : Nat → Int32 → Int32 → Option Nat → Int32 → Int32 → St → Option (Int32 × St)} {x0 : Nat} {x2 : Int32} {x3 : Int32} {x4 : Option Nat} {x5 : Int32} {x6 : Int32} {z0 z : St} (hM : mX19_listen_59b &&& M = mX19_listen_59b)  (hK59 : ∀ a0 a1 a2 a3 a4 a5 a6, zFr M z0 a6 → zPw M z0 (K59 a0 a1 a2 a3 a4 a5 a6)) (h : zFr M z0 z) : zPw M z0 (fX19_listen_59b N K59 x0 x2 x3 x4 x5 x6 z) := by
  unfold fX19_listen_59b
  exact zw_i (zw_d (fun a2 => zw_c (wX19_leastFree (ztr rfl hM)  h) (fun r3 z4 h1 => zw_i (wX19_listen_133 (ztr rfl hM)  h1) (zw_i (wX19_listen_138 (ztr rfl hM)  h1) (wX19_listen_133 (ztr rfl hM)  h1))))) (zw_i (wX19_listen_100 (ztr rfl hM) hK59 h) (zw_d (fun a10 => zw_k (zw_l (fun y12 => zw_d (fun a13 => zw_i (wX19_listen_104 (ztr rfl hM) hK59 h) (zw_k (zw_l (fun y16 => zw_d (fun a17 => zw_i (wX19_listen_104 (ztr rfl hM) hK59 h) (wX19_listen_100 (ztr rfl hM) hK59 h)))))))))))
def mX19_listen_59 : Nat := 0xa0000000000000000000000000000000000000000000000000000000000000000000000000000000000000000000000000000070000000000000000000000000000000000000000000000000000000000000000000000000000000000000000000000000000000000000000000000000000000000000000000000000000000000000000000000000000000000000000000000000000000000000000
theorem wX19_listen_59 {M : Nat} {z0 : St} {N : Nat}(hM : mX19_listen_59 &&& M = mX19_listen_59)  : ∀ (n : Nat) (y0 : Nat) (y1 : Int32) (y2 : Int32) (y3 : Option Nat) (y4 : Int32) (y5 : Int32) (z : St), zFr M z0 z → zPw M z0 (fX19_listen_59 N n y0 y1 y2 y3 y4 y5 z) := by
  intro n
  induction n with
  | zero => intro y0 y1 y2 y3 y4 y5 z h; exact zw_n
  | succ n ih => intro y0 y1 y2 y3 y4 y5 z h; exact wX19_listen_59b (ztr rfl hM)  (fun _ _ _ _ _ _ _ h => ih _ _ _ _ _ _ _ h) h
def mX19_listen_36 : Nat := 0xa0000000000000000000000000000000000000000000000000000000000000000000000000000000000000000000000000000070000000000000000000000000000000000000000000000000000000000000000000000000000000000000000000000000000000000000000000000000000000000000000000000000000000000000000000000000000000000000000000000000000000000000000
theorem wX19_listen_36 {M : Nat} {N : Nat} {x0 : Nat} {x1 : Int32} {x2 : Int32} {x3 : Int32} {s0 : Nat} {s1 : Int32} {z0 z : St} (hM : mX19_listen_36 &&& M = mX19_listen_36)  (h : zFr M z0 z) : zPw M z0 (fX19_listen_36 N x0 x1 x2 x3 s0 s1 z) := by
  unfold fX19_listen_36
  exact zw_c (wX19_fails (ztr rfl hM)  h) (fun r1 z2 h1 => zw_i (zw_k (zw_l (fun y7 => wX19_listen_59 (ztr rfl hM)  _ _ _ _ _ _ _ _ h1))) (zw_s h1))
def mX19_listen_31 : Nat := 0xa0000000000000000000000000000000000000000000000000000000000000000000000000000000000000000000000000000070000000000000000000000000000000000000000000000000000000000000000000000000000000000000000000000000000000000000000000000000000000000000000000000000000000000000000000000000000000000000000000000000000000000000000
theorem wX19_listen_31 {M : Nat} {N : Nat} {x0 : Nat} {x1 : Int32} {x2 : Int32} {x3 : Int32} {s0 : Nat} {z0 z : St} (hM : mX19_listen_31 &&& M = mX19_listen_31)  (h : zFr M z0 z) : zPw M z0 (fX19_listen_31 N x0 x1 x2 x3 s0 z) := by
  unfold fX19_listen_31
  exact wX19_listen_36 (ztr rfl hM)  h
def mX19_listen : Nat := 0xa0000000000000000000000000000000000000000000000000000000000000000000000000000000000000000000000000000070000000000000000000000000000000000000000000000000000000000000000000000000000000000000000000000000000000000000000000000000000000000000000000000000000000000000000000000000000000000000000000000000000000000000000
theorem wX19_listen {M : Nat} {N : Nat} {x0 : Nat} {x1 : Int32} {x2 : Int32} {x3 : Int32} {z0 z : St} (hM : mX19_listen &&& M = mX19_listen)  (h : zFr M z0 z) : zPw M z0 (fX19_listen N x0 x1 x2 x3 z) := by
  unfold fX19_listen
  exact zw_c (wX19_isHost (ztr rfl hM)  h) (fun r1 z2 h1 => zw_i (wX19_listen_31 (ztr rfl hM)  h1) (zw_i (wX19_listen_31 (ztr rfl hM)  h1) (zw_i (wX19_listen_31 (ztr rfl hM)  h1) (zw_i (wX19_listen_31 (ztr rfl hM)  h1) (zw_i (wX19_listen_36 (ztr rfl hM)  h1) (wX19_listen_31 (ztr rfl hM)  h1))))))
def mX19_open_96 : Nat := 0x3c00002000000000000000000000000a02000000000000000000000000000000000000000000000000000000000000000000000000773bf1e7fbff00000000000003e80000000020000000000000000000000000000000000000000000000000000000000000000000000000000000000000000000000000000000000000000000000000000000000000000000000000000000000000000000000000000000000000000000000000000000
theorem wX19_open_96 {M : Nat} {N : Nat} {x0 : Nat} {x2 : Int32} {x3 : Int32} {x4 : Nat} {x5 : Int32} {s0 : Nat} {s1 : Int32} {s2 : Int32} {z0 z : St} (hM : mX19_open_96 &&& M = mX19_open_96)  (h : zFr M z0 z) : zPw M z0 (fX19_open_96 N x0 x2 x3 x4 x5 s0 s1 s2 z) := by
  unfold fX19_open_96
  exact zw_c (wX19_fails (ztr rfl hM)  h) (fun r1 z2 h1 => zw_i (zw_k (zw_l (fun y7 => zw_d (fun a8 => zw_c (wX19_giveEnd (ztr rfl hM)  h1) (fun _ z10 h2 => zw_lI h2 (ztb hM rfl) (fun z13 h3 => zw_k (zw_l (fun y15 => zw_d (fun a16 => zw_l (fun y17 => zw_d (fun a18 => zw_lI h3 (ztb hM rfl) (fun z19 h4 => zw_lI h4 (ztb hM rfl) (fun z20 h5 => zw_lI h5 (ztb hM rfl) (fun z21 h6 => zw_c (wX19_stir (ztr rfl hM)  h6) (fun _ z23 h7 => zw_s h7))))))))))))))) (zw_s h1))
def mX19_open_91 : Nat := 0x3c00002000000000000000000000000a02000000000000000000000000000000000000000000000000000000000000000000000000773bf1e7fbff00000000000003e80000000020000000000000000000000000000000000000000000000000000000000000000000000000000000000000000000000000000000000000000000000000000000000000000000000000000000000000000000000000000000000000000000000000000000
theorem wX19_open_91 {M : Nat} {N : Nat} {x0 : Nat} {x2 : Int32} {x3 : Int32} {x4 : Nat} {x5 : Int32} {s0 : Nat} {s1 : Int32} {z0 z : St} (hM : mX19_open_91 &&& M = mX19_open_91)  (h : zFr M z0 z) : zPw M z0 (fX19_open_91 N x0 x2 x3 x4 x5 s0 s1 z) := by
  unfold fX19_open_91
  exact wX19_open_96 (ztr rfl hM)  h
def mX19_open_40 : Nat := 0x3c00002000000000000000000000000a02000000000000000000000000000000000000000000000000000000000000000000000000773bf1e7fbff00000000000003e80000000020000000000000000000000000000000000000000000000000000000000000000000000000000000000000000000000000000000000000000000000000000000000000000000000000000000000000000000000000000000000000000000000000000000
theorem wX19_open_40 {M : Nat} {N : Nat} {x0 : Nat} {x1 : Int32} {x2 : Int32} {x3 : Int32} {s0 : Nat} {s1 : Int32} {z0 z : St} (hM : mX19_open_40 &&& M = mX19_open_40)  (h : zFr M z0 z) : zPw M z0 (fX19_open_40 N x0 x1 x2 x3 s0 s1 z) := by
  unfold fX19_open_40
  exact zw_c (wX19_fails (ztr rfl hM)  h) (fun r1 z2 h1 => zw_i (zw_k (zw_l (fun y7 => zw_d (fun a8 => zw_c (wX19_leastFree (ztr rfl hM)  h1) (fun r9 z10 h2 => zw_i (wX19_open_91 (ztr rfl hM)  h2) (zw_i (wX19_open_91 (ztr rfl hM)  h2) (zw_i (wX19_open_96 (ztr rfl hM)  h2) (wX19_open_91 (ztr rfl hM)  h2)))))))) (zw_s h1))
def mX19_open_35 : Nat := 0x3c00002000000000000000000000000a02000000000000000000000000000000000000000000000000000000000000000000000000773bf1e7fbff00000000000003e80000000020000000000000000000000000000000000000000000000000000000000000000000000000000000000000000000000000000000000000000000000000000000000000000000000000000000000000000000000000000000000000000000000000000000
theorem wX19_open_35 {M : Nat} {N : Nat} {x0 : Nat} {x1 : Int32} {x2 : Int32} {x3 : Int32} {s0 : Nat} {z0 z : St} (hM : mX19_open_35 &&& M = mX19_open_35)  (h : zFr M z0 z) : zPw M z0 (fX19_open_35 N x0 x1 x2 x3 s0 z) := by
  unfold fX19_open_35
  exact wX19_open_40 (ztr rfl hM)  h
def mX19_open : Nat := 0x3c00002000000000000000000000000a02000000000000000000000000000000000000000000000000000000000000000000000000773bf1e7fbff00000000000003e80000000020000000000000000000000000000000000000000000000000000000000000000000000000000000000000000000000000000000000000000000000000000000000000000000000000000000000000000000000000000000000000000000000000000000
theorem wX19_open {M : Nat} {N : Nat} {x0 : Nat} {x1 : Int32} {x2 : Int32} {x3 : Int32} {z0 z : St} (hM : mX19_open &&& M = mX19_open)  (h : zFr M z0 z) : zPw M z0 (fX19_open N x0 x1 x2 x3 z) := by
  unfold fX19_open
  exact zw_c (wX19_isHost (ztr rfl hM)  h) (fun r1 z2 h1 => zw_i (wX19_open_35 (ztr rfl hM)  h1) (zw_i (wX19_open_35 (ztr rfl hM)  h1) (zw_i (wX19_open_35 (ztr rfl hM)  h1) (zw_k (zw_l (fun y9 => zw_d (fun a10 => zw_c (wX19_isOwn (ztr rfl hM)  h1) (fun r11 z12 h2 => zw_i (wX19_open_40 (ztr rfl hM)  h2) (wX19_open_35 (ztr rfl hM)  h2)))))))))
def mX19_accept_133 : Nat := 0x0
theorem wX19_accept_133 {M : Nat} {N : Nat} {K56 : Nat → Int32 → Int32 → Int32 → St → Option (Int32 × St)} {x0 : Nat} {x1 : Int32} {x2 : Int32} {x3 : Int32} {z0 z : St} (hM : mX19_accept_133 &&& M = mX19_accept_133)  (hK56 : ∀ a0 a1 a2 a3 a4, zFr M z0 a4 → zPw M z0 (K56 a0 a1 a2 a3 a4)) (h : zFr M z0 z) : zPw M z0 (fX19_accept_133 N K56 x0 x1 x2 x3 z) := by
  unfold fX19_accept_133
  exact zw_l (fun v1 => hK56 _ _ _ _ _ h)
def mX19_accept_56b : Nat := 0x800000000000000000000000000000000000000000000000000000000000000000000000000000000000000000000000000000000000000000000000000000000000000000000000000000000000000000000000000000000000000000000000000000000000000000
theorem wX19_accept_56b {M : Nat} {N : Nat} {K56 : Nat → Int32 → Int32 → Int32 → St → Option (Int32 × St)} {x0 : Nat} {x1 : Int32} {x2 : Int32} {x3 : Int32} {z0 z : St} (hM : mX19_accept_56b &&& M = mX19_accept_56b)  (hK56 : ∀ a0 a1 a2 a3 a4, zFr M z0 a4 → zPw M z0 (K56 a0 a1 a2 a3 a4)) (h : zFr M z0 z) : zPw M z0 (fX19_accept_56b N K56 x0 x1 x2 x3 z) := by
  unfold fX19_accept_56b
  exact zw_i (zw_s h) (zw_k (zw_l (fun y3 => zw_d (fun a4 => zw_k (zw_l (fun y6 => zw_d (fun a7 => zw_i (wX19_accept_133 (ztr rfl hM) hK56 h) (zw_i (wX19_accept_133 (ztr rfl hM) hK56 h) (zw_i (wX19_accept_133 (ztr rfl hM) hK56 h) (zw_l (fun y11 => zw_d (fun a12 => zw_i (wX19_accept_133 (ztr rfl hM) hK56 h) (zw_l (fun y14 => zw_d (fun a15 => zw_i (wX19_accept_133 (ztr rfl hM) hK56 h) (zw_lI h (ztb hM rfl) (fun z17 h1 => zw_s h1)))))))))))))))))
def mX19_accept_56 : Nat := 0x800000000000000000000000000000000000000000000000000000000000000000000000000000000000000000000000000000000000000000000000000000000000000000000000000000000000000000000000000000000000000000000000000000000000000000
theorem wX19_accept_56 {M : Nat} {z0 : St} {N : Nat}(hM : mX19_accept_56 &&& M = mX19_accept_56)  : ∀ (n : Nat) (y0 : Nat) (y1 : Int32) (y2 : Int32) (y3 : Int32) (z : St), zFr M z0 z → zPw M z0 (fX19_accept_56 N n y0 y1 y2 y3 z) := by
  intro n
  induction n with
  | zero => intro y0 y1 y2 y3 z h; exact zw_n
  | succ n ih => intro y0 y1 y2 y3 z h; exact wX19_accept_56b (ztr rfl hM)  (fun _ _ _ _ _ h => ih _ _ _ _ _ h) h
def mX19_accept_46 : Nat := 0x20000000000000000000000000000000000000000000000000000000000000000000000000000000000000000000000000000800000000000000000000000000000000000000000000000000000000000000000000000000000000000000000000000000000000000000000000000000000000000000000000000000000000000000000000000000000000000000000000000000000000000000000
theorem wX19_accept_46 {M : Nat} {N : Nat} {x0 : Nat} {x1 : Int32} {x2 : Int32} {s0 : Nat} {s1 : Int32} {s2 : Int32} {z0 z : St} (hM : mX19_accept_46 &&& M = mX19_accept_46)  (h : zFr M z0 z) : zPw M z0 (fX19_accept_46 N x0 x1 x2 s0 s1 s2 z) := by
  unfold fX19_accept_46
  exact zw_c (wX19_fails (ztr rfl hM)  h) (fun r1 z2 h1 => zw_i (wX19_accept_56 (ztr rfl hM)  _ _ _ _ _ _ h1) (zw_s h1))
def mX19_accept_45 : Nat := 0x20000000000000000000000000000000000000000000000000000000000000000000000000000000000000000000000000000800000000000000000000000000000000000000000000000000000000000000000000000000000000000000000000000000000000000000000000000000000000000000000000000000000000000000000000000000000000000000000000000000000000000000000
theorem wX19_accept_45 {M : Nat} {N : Nat} {x0 : Nat} {x1 : Int32} {x2 : Int32} {s0 : Nat} {s1 : Int32} {z0 z : St} (hM : mX19_accept_45 &&& M = mX19_accept_45)  (h : zFr M z0 z) : zPw M z0 (fX19_accept_45 N x0 x1 x2 s0 s1 z) := by
  unfold fX19_accept_45
  exact wX19_accept_46 (ztr rfl hM)  h
def mX19_accept_15 : Nat := 0x20000000000000000000000000000000000000000000000000000000000000000000000000000000000000000000000000000800000000000000000000000000000000000000000000000000000000000000000000000000000000000000000000000000000000000000000000000000000000000000000000000000000000000000000000000000000000000000000000000000000000000000000
theorem wX19_accept_15 {M : Nat} {N : Nat} {x0 : Nat} {x1 : Int32} {x2 : Int32} {s0 : Nat} {s1 : Int32} {z0 z : St} (hM : mX19_accept_15 &&& M = mX19_accept_15)  (h : zFr M z0 z) : zPw M z0 (fX19_accept_15 N x0 x1 x2 s0 s1 z) := by
  unfold fX19_accept_15
  exact zw_c (wX19_isDoor (ztr rfl hM)  h) (fun r1 z2 h1 => zw_i (wX19_accept_45 (ztr rfl hM)  h1) (zw_k (zw_l (fun y7 => zw_d (fun a8 => zw_k (zw_l (fun y10 => zw_d (fun a11 => zw_i (wX19_accept_45 (ztr rfl hM)  h1) (wX19_accept_46 (ztr rfl hM)  h1)))))))))
def mX19_accept : Nat := 0x20000000000000000000000000000000000000000000000000000000000000000000000000000000000000000000000000000800000000000000000000000000000000000000000000000000000000000000000000000000000000000000000000000000000000000000000000000000000000000000000000000000000000000000000000000000000000000000000000000000000000000000000
theorem wX19_accept {M : Nat} {N : Nat} {x0 : Nat} {x1 : Int32} {x2 : Int32} {z0 z : St} (hM : mX19_accept &&& M = mX19_accept)  (h : zFr M z0 z) : zPw M z0 (fX19_accept N x0 x1 x2 z) := by
  unfold fX19_accept
  exact zw_c (wX19_isDoor (ztr rfl hM)  h) (fun r1 z2 h1 => zw_i (wX19_accept_15 (ztr rfl hM)  h1) (wX19_accept_15 (ztr rfl hM)  h1))
def mX19_endAt : Nat := 0x0
theorem wX19_endAt {M : Nat} {N : Nat} {x0 : Nat} {x1 : Int32} {x2 : Int32} {z0 z : St} (hM : mX19_endAt &&& M = mX19_endAt)  (h : zFr M z0 z) : zPw M z0 (fX19_endAt N x0 x1 x2 z) := by
  unfold fX19_endAt
  exact zw_c (wX19_isDoor (ztr rfl hM)  h) (fun r1 z2 h1 => zw_i (zw_s h1) (zw_k (zw_l (fun y7 => zw_d (fun a8 => zw_k (zw_l (fun y10 => zw_d (fun a11 => zw_i (zw_s h1) (zw_k (zw_l (fun y14 => zw_d (fun a15 => zw_k (zw_l (fun y17 => zw_d (fun a18 => zw_l (fun y19 => zw_s h1))))))))))))))))
def mX19_writes : Nat := 0x60000080000000000000000000000000000000000000000000000000000000000000000000000000000000000000000000000000000000000010000000000000000000000000000000000000000000000000000000000000000000000000000000000000000000000000000000000000000000000000000000000000000000000000000000000000000000000000000000000000000000000000000000000000000000000000000000000
theorem wX19_writes {M : Nat} {N : Nat} {x0 : Nat} {x1 : Nat} {x2 : Int32} {z0 z : St} (hM : mX19_writes &&& M = mX19_writes)  (h : zFr M z0 z) : zPw M z0 (fX19_writes N x0 x1 x2 z) := by
  unfold fX19_writes
  exact zw_c (wX14_unthanked (ztr rfl hM)  h) (fun r1 z2 h1 => zw_i (zw_k (zw_lA h1 (ztb hM rfl) (fun z7 h2 => zw_lI h2 (ztb hM rfl) (fun z8 h3 => zw_c (wX19_writeDown (ztr rfl hM)  h3) (fun _ z10 h4 => zw_s h4))))) (zw_s h1))
def mX19_write_100 : Nat := 0x80000000000000000000000000000000000000000000000000000000000000000000000000000060000000000000000000000000000000000000000000000000000000000000000000000000000000000000000000000000000000000000000000000000000000000000000000000000000000000000000000000000000000000000000000000000000000000000000000000000000000000000000
theorem wX19_write_100 {M : Nat} {N : Nat} {x0 : Nat} {x6 : Option Nat} {x7 : Int32} {z0 z : St} (hM : mX19_write_100 &&& M = mX19_write_100)  (h : zFr M z0 z) : zPw M z0 (fX19_write_100 N x0 x6 x7 z) := by
  unfold fX19_write_100
  exact zw_d (fun a1 => zw_c (wX14_persist (ztr rfl hM)  h) (fun _ z3 h1 => zw_c (wX19_stir (ztr rfl hM)  h1) (fun _ z7 h2 => zw_s h2)))
def mX19_write_65b : Nat := 0x60000080000000000000000000000080000000000000000000000000000000000000000000000000000000000000000000000000000060000010000000000000000000000000000000000000000000000000000000000000000000000000000000000000000000000000000000000000000000000000000000000000000000000000000000000000000000000000000000000000000000000000000000000000000000000000000000000
theorem wX19_write_65b {M : Nat} {N : Nat} {K65 : Nat → Int64 → Int32 → Option Nat → Int32 → St → Option (Int32 × St)} {x0 : Nat} {x3 : Int64} {x5 : Int32} {x6 : Option Nat} {x7 : Int32} {z0 z : St} (hM : mX19_write_65b &&& M = mX19_write_65b)  (hK65 : ∀ a0 a1 a2 a3 a4 a5, zFr M z0 a5 → zPw M z0 (K65 a0 a1 a2 a3 a4 a5)) (h : zFr M z0 z) : zPw M z0 (fX19_write_65b N K65 x0 x3 x5 x6 x7 z) := by
  unfold fX19_write_65b
  exact zw_i (wX19_write_100 (ztr rfl hM)  h) (zw_d (fun a2 => zw_c (wX19_writes (ztr rfl hM)  h) (fun r3 z4 h1 => zw_i (wX19_write_100 (ztr rfl hM)  h1) (zw_l (fun v8 => hK65 _ _ _ _ _ _ h1)))))
def mX19_write_65 : Nat := 0x60000080000000000000000000000080000000000000000000000000000000000000000000000000000000000000000000000000000060000010000000000000000000000000000000000000000000000000000000000000000000000000000000000000000000000000000000000000000000000000000000000000000000000000000000000000000000000000000000000000000000000000000000000000000000000000000000000
theorem wX19_write_65 {M : Nat} {z0 : St} {N : Nat}(hM : mX19_write_65 &&& M = mX19_write_65)  : ∀ (n : Nat) (y0 : Nat) (y1 : Int64) (y2 : Int32) (y3 : Option Nat) (y4 : Int32) (z : St), zFr M z0 z → zPw M z0 (fX19_write_65 N n y0 y1 y2 y3 y4 z) := by
  intro n
  induction n with
  | zero => intro y0 y1 y2 y3 y4 z h; exact zw_n
  | succ n ih => intro y0 y1 y2 y3 y4 z h; exact wX19_write_65b (ztr rfl hM)  (fun _ _ _ _ _ _ h => ih _ _ _ _ _ _ h) h
def mX19_write_54 : Nat := 0x600000800000000000000000000000a0000000000000000000000000000000000000000000000000000000000000000000000000000060000010000000000000000000000000000000000000000000000000000000000000000000000000000000000000000000000000000000000000000000000000000000000000000000000000000000000000000000000000000000000000000000000000000000000000000000000000000000000
theorem wX19_write_54 {M : Nat} {N : Nat} {x0 : Nat} {x3 : Int64} {x5 : Int32} {x6 : Option Nat} {s0 : Nat} {s1 : Int32} {s2 : Int32} {z0 z : St} (hM : mX19_write_54 &&& M = mX19_write_54)  (h : zFr M z0 z) : zPw M z0 (fX19_write_54 N x0 x3 x5 x6 s0 s1 s2 z) := by
  unfold fX19_write_54
  exact zw_c (wX19_fails (ztr rfl hM)  h) (fun r1 z2 h1 => zw_i (wX19_write_65 (ztr rfl hM)  _ _ _ _ _ _ _ h1) (zw_s h1))
def mX19_write_49 : Nat := 0x600000800000000000000000000000a0000000000000000000000000000000000000000000000000000000000000000000000000000060000010000000000000000000000000000000000000000000000000000000000000000000000000000000000000000000000000000000000000000000000000000000000000000000000000000000000000000000000000000000000000000000000000000000000000000000000000000000000
theorem wX19_write_49 {M : Nat} {N : Nat} {x0 : Nat} {x3 : Int64} {x5 : Int32} {x6 : Option Nat} {s0 : Nat} {s1 : Int32} {z0 z : St} (hM : mX19_write_49 &&& M = mX19_write_49)  (h : zFr M z0 z) : zPw M z0 (fX19_write_49 N x0 x3 x5 x6 s0 s1 z) := by
  unfold fX19_write_49
  exact wX19_write_54 (ztr rfl hM)  h
def mX19_write_36 : Nat := 0x600000800000000000000000000000a0000000000000000000000000000000000000000000000000000000000000000000000000000060000010000000000000000000000000000000000000000000000000000000000000000000000000000000000000000000000000000000000000000000000000000000000000000000000000000000000000000000000000000000000000000000000000000000000000000000000000000000000
theorem wX19_write_36 {M : Nat} {N : Nat} {x0 : Nat} {x3 : Int64} {x5 : Int32} {x6 : Option Nat} {s0 : Nat} {s1 : Int32} {z0 z : St} (hM : mX19_write_36 &&& M = mX19_write_36)  (h : zFr M z0 z) : zPw M z0 (fX19_write_36 N x0 x3 x5 x6 s0 s1 z) := by
  unfold fX19_write_36
  exact zw_o (wX19_write_49 (ztr rfl hM)  h) (fun a2 => zw_c (wX14_canWrite (ztr rfl hM)  h) (fun r3 z4 h1 => zw_i (wX19_write_54 (ztr rfl hM)  h1) (wX19_write_49 (ztr rfl hM)  h1)))
def mX19_write_31 : Nat := 0x600000800000000000000000000000a0000000000000000000000000000000000000000000000000000000000000000000000000000060000010000000000000000000000000000000000000000000000000000000000000000000000000000000000000000000000000000000000000000000000000000000000000000000000000000000000000000000000000000000000000000000000000000000000000000000000000000000000
theorem wX19_write_31 {M : Nat} {N : Nat} {x0 : Nat} {x3 : Int64} {x5 : Int32} {x6 : Option Nat} {s0 : Nat} {z0 z : St} (hM : mX19_write_31 &&& M = mX19_write_31)  (h : zFr M z0 z) : zPw M z0 (fX19_write_31 N x0 x3 x5 x6 s0 z) := by
  unfold fX19_write_31
  exact wX19_write_36 (ztr rfl hM)  h
def mX19_write : Nat := 0x600000800000000000000000000000a0000000000000000000000000000000000000000000000000000000000000000000000000000060000010000000000000000000000000000000000000000000000000000000000000000000000000000000000000000000000000000000000000000000000000000000000000000000000000000000000000000000000000000000000000000000000000000000000000000000000000000000000
theorem wX19_write {M : Nat} {N : Nat} {x0 : Nat} {x1 : Int32} {x2 : Int32} {x3 : Int64} {x5 : Int32} {z0 z : St} (hM : mX19_write &&& M = mX19_write)  (h : zFr M z0 z) : zPw M z0 (fX19_write N x0 x1 x2 x3 x5 z) := by
  unfold fX19_write
  exact zw_c (wX19_endAt (ztr rfl hM)  h) (fun r1 z2 h1 => zw_c (wX19_isDoor (ztr rfl hM)  h1) (fun r5 z6 h2 => zw_i (wX19_write_31 (ztr rfl hM)  h2) (zw_i (wX19_write_31 (ztr rfl hM)  h2) (zw_i (wX19_write_36 (ztr rfl hM)  h2) (wX19_write_31 (ztr rfl hM)  h2)))))
def mX19_fill_95 : Nat := 0x80000000000000000000000000000000000000000000000000000000000000000000000000000060000000000000000000000000000000000000000000000000000000000000000000000000000000000000000000000000000000000000000000000000000000000000000000000000000000000000000000000000000000000000000000000000000000000000000000000000000000000000000
theorem wX19_fill_95 {M : Nat} {N : Nat} {x0 : Nat} {x6 : Option Nat} {x7 : Int32} {z0 z : St} (hM : mX19_fill_95 &&& M = mX19_fill_95)  (h : zFr M z0 z) : zPw M z0 (fX19_fill_95 N x0 x6 x7 z) := by
  unfold fX19_fill_95
  exact zw_d (fun a1 => zw_c (wX14_persist (ztr rfl hM)  h) (fun _ z3 h1 => zw_c (wX19_stir (ztr rfl hM)  h1) (fun _ z7 h2 => zw_s h2)))
def mX19_fill_66b : Nat := 0x60000080000000000000000000000080000000000000000000000000000000000000000000000000000000000000000000000000000060000010000000000000000000000000000000000000000000000000000000000000000000000000000000000000000000000000000000000000000000000000000000000000000000000000000000000000000000000000000000000000000000000000000000000000000000000000000000000
theorem wX19_fill_66b {M : Nat} {N : Nat} {K66 : Nat → Int32 → Int32 → Int32 → Option Nat → Int32 → St → Option (Int32 × St)} {x0 : Nat} {x3 : Int32} {x4 : Int32} {x5 : Int32} {x6 : Option Nat} {x7 : Int32} {z0 z : St} (hM : mX19_fill_66b &&& M = mX19_fill_66b)  (hK66 : ∀ a0 a1 a2 a3 a4 a5 a6, zFr M z0 a6 → zPw M z0 (K66 a0 a1 a2 a3 a4 a5 a6)) (h : zFr M z0 z) : zPw M z0 (fX19_fill_66b N K66 x0 x3 x4 x5 x6 x7 z) := by
  unfold fX19_fill_66b
  exact zw_i (wX19_fill_95 (ztr rfl hM)  h) (zw_d (fun a2 => zw_c (wX19_writes (ztr rfl hM)  h) (fun r3 z4 h1 => zw_i (wX19_fill_95 (ztr rfl hM)  h1) (zw_l (fun v8 => hK66 _ _ _ _ _ _ _ h1)))))
def mX19_fill_66 : Nat := 0x60000080000000000000000000000080000000000000000000000000000000000000000000000000000000000000000000000000000060000010000000000000000000000000000000000000000000000000000000000000000000000000000000000000000000000000000000000000000000000000000000000000000000000000000000000000000000000000000000000000000000000000000000000000000000000000000000000
theorem wX19_fill_66 {M : Nat} {z0 : St} {N : Nat}(hM : mX19_fill_66 &&& M = mX19_fill_66)  : ∀ (n : Nat) (y0 : Nat) (y1 : Int32) (y2 : Int32) (y3 : Int32) (y4 : Option Nat) (y5 : Int32) (z : St), zFr M z0 z → zPw M z0 (fX19_fill_66 N n y0 y1 y2 y3 y4 y5 z) := by
  intro n
  induction n with
  | zero => intro y0 y1 y2 y3 y4 y5 z h; exact zw_n
  | succ n ih => intro y0 y1 y2 y3 y4 y5 z h; exact wX19_fill_66b (ztr rfl hM)  (fun _ _ _ _ _ _ _ h => ih _ _ _ _ _ _ _ h) h
def mX19_fill_55 : Nat := 0x600000800000000000000000000000a0000000000000000000000000000000000000000000000000000000000000000000000000000060000010000000000000000000000000000000000000000000000000000000000000000000000000000000000000000000000000000000000000000000000000000000000000000000000000000000000000000000000000000000000000000000000000000000000000000000000000000000000
theorem wX19_fill_55 {M : Nat} {N : Nat} {x0 : Nat} {x3 : Int32} {x4 : Int32} {x5 : Int32} {x6 : Option Nat} {s0 : Nat} {s1 : Int32} {s2 : Int32} {z0 z : St} (hM : mX19_fill_55 &&& M = mX19_fill_55)  (h : zFr M z0 z) : zPw M z0 (fX19_fill_55 N x0 x3 x4 x5 x6 s0 s1 s2 z) := by
  unfold fX19_fill_55
  exact zw_c (wX19_fails (ztr rfl hM)  h) (fun r1 z2 h1 => zw_i (wX19_fill_66 (ztr rfl hM)  _ _ _ _ _ _ _ _ h1) (zw_s h1))
def mX19_fill_50 : Nat := 0x600000800000000000000000000000a0000000000000000000000000000000000000000000000000000000000000000000000000000060000010000000000000000000000000000000000000000000000000000000000000000000000000000000000000000000000000000000000000000000000000000000000000000000000000000000000000000000000000000000000000000000000000000000000000000000000000000000000
theorem wX19_fill_50 {M : Nat} {N : Nat} {x0 : Nat} {x3 : Int32} {x4 : Int32} {x5 : Int32} {x6 : Option Nat} {s0 : Nat} {s1 : Int32} {z0 z : St} (hM : mX19_fill_50 &&& M = mX19_fill_50)  (h : zFr M z0 z) : zPw M z0 (fX19_fill_50 N x0 x3 x4 x5 x6 s0 s1 z) := by
  unfold fX19_fill_50
  exact wX19_fill_55 (ztr rfl hM)  h
def mX19_fill_37 : Nat := 0x600000800000000000000000000000a0000000000000000000000000000000000000000000000000000000000000000000000000000060000010000000000000000000000000000000000000000000000000000000000000000000000000000000000000000000000000000000000000000000000000000000000000000000000000000000000000000000000000000000000000000000000000000000000000000000000000000000000
theorem wX19_fill_37 {M : Nat} {N : Nat} {x0 : Nat} {x3 : Int32} {x4 : Int32} {x5 : Int32} {x6 : Option Nat} {s0 : Nat} {s1 : Int32} {z0 z : St} (hM : mX19_fill_37 &&& M = mX19_fill_37)  (h : zFr M z0 z) : zPw M z0 (fX19_fill_37 N x0 x3 x4 x5 x6 s0 s1 z) := by
  unfold fX19_fill_37
  exact zw_o (wX19_fill_50 (ztr rfl hM)  h) (fun a2 => zw_c (wX14_canWrite (ztr rfl hM)  h) (fun r3 z4 h1 => zw_i (wX19_fill_55 (ztr rfl hM)  h1) (wX19_fill_50 (ztr rfl hM)  h1)))
def mX19_fill_32 : Nat := 0x600000800000000000000000000000a0000000000000000000000000000000000000000000000000000000000000000000000000000060000010000000000000000000000000000000000000000000000000000000000000000000000000000000000000000000000000000000000000000000000000000000000000000000000000000000000000000000000000000000000000000000000000000000000000000000000000000000000
theorem wX19_fill_32 {M : Nat} {N : Nat} {x0 : Nat} {x3 : Int32} {x4 : Int32} {x5 : Int32} {x6 : Option Nat} {s0 : Nat} {z0 z : St} (hM : mX19_fill_32 &&& M = mX19_fill_32)  (h : zFr M z0 z) : zPw M z0 (fX19_fill_32 N x0 x3 x4 x5 x6 s0 z) := by
  unfold fX19_fill_32
  exact wX19_fill_37 (ztr rfl hM)  h
def mX19_fill : Nat := 0x600000800000000000000000000000a0000000000000000000000000000000000000000000000000000000000000000000000000000060000010000000000000000000000000000000000000000000000000000000000000000000000000000000000000000000000000000000000000000000000000000000000000000000000000000000000000000000000000000000000000000000000000000000000000000000000000000000000
theorem wX19_fill {M : Nat} {N : Nat} {x0 : Nat} {x1 : Int32} {x2 : Int32} {x3 : Int32} {x4 : Int32} {x5 : Int32} {z0 z : St} (hM : mX19_fill &&& M = mX19_fill)  (h : zFr M z0 z) : zPw M z0 (fX19_fill N x0 x1 x2 x3 x4 x5 z) := by
  unfold fX19_fill
  exact zw_c (wX19_endAt (ztr rfl hM)  h) (fun r1 z2 h1 => zw_c (wX19_isDoor (ztr rfl hM)  h1) (fun r5 z6 h2 => zw_i (wX19_fill_32 (ztr rfl hM)  h2) (zw_i (wX19_fill_32 (ztr rfl hM)  h2) (zw_i (wX19_fill_37 (ztr rfl hM)  h2) (wX19_fill_32 (ztr rfl hM)  h2)))))
def mX19_canRead_33 : Nat := 0x0
theorem wX19_canRead_33 {M : Nat} {N : Nat} {z0 z : St} (hM : mX19_canRead_33 &&& M = mX19_canRead_33)  (h : zFr M z0 z) : zPw M z0 (fX19_canRead_33 N z) := by
  unfold fX19_canRead_33
  exact zw_s h
def mX19_canRead : Nat := 0x0
theorem wX19_canRead {M : Nat} {N : Nat} {x0 : Option Nat} {z0 z : St} (hM : mX19_canRead &&& M = mX19_canRead)  (h : zFr M z0 z) : zPw M z0 (fX19_canRead N x0 z) := by
  unfold fX19_canRead
  exact zw_o (zw_s h) (fun a2 => zw_c (wX14_readable (ztr rfl hM)  h) (fun r3 z4 h1 => zw_i (wX19_canRead_33 (ztr rfl hM)  h1) (zw_i (wX19_canRead_33 (ztr rfl hM)  h1) (zw_c (wX14_isDead (ztr rfl hM)  h1) (fun r9 z10 h2 => zw_i (zw_s h2) (zw_i (zw_s h2) (wX19_canRead_33 (ztr rfl hM)  h2)))))))
def mX19_read__34 : Nat := 0x60000000000000000000000000000000000000000000000000000000000000000000000000040010004000000000000000000000000000000000000000000000000000000000000000000000000000000000000000000000000000000000000000000000000000000000000000000000000000000000000000000000000000000000000000000000000000000000000000000000000000000000000
theorem wX19_read__34 {M : Nat} {N : Nat} {x0 : Nat} {x3 : Option Nat} {s0 : Nat} {s1 : Int32} {s2 : Int32} {z0 z : St} (hM : mX19_read__34 &&& M = mX19_read__34)  (h : zFr M z0 z) : zPw M z0 (fX19_read__34 N x0 x3 s0 s1 s2 z) := by
  unfold fX19_read__34
  exact zw_c (wX19_fails (ztr rfl hM)  h) (fun r1 z2 h1 => zw_i (zw_d (fun a6 => zw_c (wX14_readable (ztr rfl hM)  h1) (fun r7 z8 h2 => zw_i (zw_i (zw_s h2) (zw_s h2)) (zw_c (wX19_read (ztr rfl hM)  h2) (fun r13 z14 h3 => zw_s h3))))) (zw_s h1))
def mX19_read__22 : Nat := 0x60000000000000000000000000000000000000000000000000000000000000000000000000040010004000000000000000000000000000000000000000000000000000000000000000000000000000000000000000000000000000000000000000000000000000000000000000000000000000000000000000000000000000000000000000000000000000000000000000000000000000000000000
theorem wX19_read__22 {M : Nat} {N : Nat} {x0 : Nat} {x3 : Option Nat} {s0 : Nat} {s1 : Int32} {z0 z : St} (hM : mX19_read__22 &&& M = mX19_read__22)  (h : zFr M z0 z) : zPw M z0 (fX19_read__22 N x0 x3 s0 s1 z) := by
  unfold fX19_read__22
  exact zw_c (wX19_canRead (ztr rfl hM)  h) (fun r1 z2 h1 => zw_i (wX19_read__34 (ztr rfl hM)  h1) (wX19_read__34 (ztr rfl hM)  h1))
def mX19_read_ : Nat := 0x60000000000000000000000000000000000000000000000000000000000000000000000000040010004000000000000000000000000000000000000000000000000000000000000000000000000000000000000000000000000000000000000000000000000000000000000000000000000000000000000000000000000000000000000000000000000000000000000000000000000000000000000
theorem wX19_read_ {M : Nat} {N : Nat} {x0 : Nat} {x1 : Int32} {x2 : Int32} {z0 z : St} (hM : mX19_read_ &&& M = mX19_read_)  (h : zFr M z0 z) : zPw M z0 (fX19_read_ N x0 x1 x2 z) := by
  unfold fX19_read_
  exact zw_c (wX19_endAt (ztr rfl hM)  h) (fun r1 z2 h1 => zw_c (wX19_isDoor (ztr rfl hM)  h1) (fun r5 z6 h2 => zw_i (wX19_read__22 (ztr rfl hM)  h2) (wX19_read__22 (ztr rfl hM)  h2)))
def mX19_readAll_62b : Nat := 0x40000000000000000000000000000000000000000000000000000000000000000000000000040010004000000000000000000000000000000000000000000000000000000000000000000000000000000000000000000000000000000000000000000000000000000000000000000000000000000000000000000000000000000000000000000000000000000000000000000000000000000000000
theorem wX19_readAll_62b {M : Nat} {N : Nat} {K62 : Nat → Int32 → Option Nat → Int32 → Int32 → St → Option (Int32 × St)} {x0 : Nat} {x3 : Int32} {x4 : Option Nat} {x5 : Int32} {x6 : Int32} {z0 z : St} (hM : mX19_readAll_62b &&& M = mX19_readAll_62b)  (hK62 : ∀ a0 a1 a2 a3 a4 a5, zFr M z0 a5 → zPw M z0 (K62 a0 a1 a2 a3 a4 a5)) (h : zFr M z0 z) : zPw M z0 (fX19_readAll_62b N K62 x0 x3 x4 x5 x6 z) := by
  unfold fX19_readAll_62b
  exact zw_i (zw_s h) (zw_d (fun a2 => zw_c (wX14_readable (ztr rfl hM)  h) (fun r3 z4 h1 => zw_i (zw_s h1) (zw_c (wX19_read (ztr rfl hM)  h1) (fun r8 z9 h2 => zw_l (fun v12 => zw_l (fun v13 => hK62 _ _ _ _ _ _ h2)))))))
def mX19_readAll_62 : Nat := 0x40000000000000000000000000000000000000000000000000000000000000000000000000040010004000000000000000000000000000000000000000000000000000000000000000000000000000000000000000000000000000000000000000000000000000000000000000000000000000000000000000000000000000000000000000000000000000000000000000000000000000000000000
theorem wX19_readAll_62 {M : Nat} {z0 : St} {N : Nat}(hM : mX19_readAll_62 &&& M = mX19_readAll_62)  : ∀ (n : Nat) (y0 : Nat) (y1 : Int32) (y2 : Option Nat) (y3 : Int32) (y4 : Int32) (z : St), zFr M z0 z → zPw M z0 (fX19_readAll_62 N n y0 y1 y2 y3 y4 z) := by
  intro n
  induction n with
  | zero => intro y0 y1 y2 y3 y4 z h; exact zw_n
  | succ n ih => intro y0 y1 y2 y3 y4 z h; exact wX19_readAll_62b (ztr rfl hM)  (fun _ _ _ _ _ _ h => ih _ _ _ _ _ _ h) h
def mX19_readAll_48 : Nat := 0x60000000000000000000000000000000000000000000000000000000000000000000000000040010004000000000000000000000000000000000000000000000000000000000000000000000000000000000000000000000000000000000000000000000000000000000000000000000000000000000000000000000000000000000000000000000000000000000000000000000000000000000000
theorem wX19_readAll_48 {M : Nat} {N : Nat} {x0 : Nat} {x3 : Int32} {x4 : Option Nat} {s0 : Nat} {s1 : Int32} {s2 : Int32} {z0 z : St} (hM : mX19_readAll_48 &&& M = mX19_readAll_48)  (h : zFr M z0 z) : zPw M z0 (fX19_readAll_48 N x0 x3 x4 s0 s1 s2 z) := by
  unfold fX19_readAll_48
  exact zw_c (wX19_fails (ztr rfl hM)  h) (fun r1 z2 h1 => zw_i (wX19_readAll_62 (ztr rfl hM)  _ _ _ _ _ _ _ h1) (zw_s h1))
def mX19_readAll_35 : Nat := 0x60000000000000000000000000000000000000000000000000000000000000000000000000040010004000000000000000000000000000000000000000000000000000000000000000000000000000000000000000000000000000000000000000000000000000000000000000000000000000000000000000000000000000000000000000000000000000000000000000000000000000000000000
theorem wX19_readAll_35 {M : Nat} {N : Nat} {x0 : Nat} {x3 : Int32} {x4 : Option Nat} {s0 : Nat} {s1 : Int32} {z0 z : St} (hM : mX19_readAll_35 &&& M = mX19_readAll_35)  (h : zFr M z0 z) : zPw M z0 (fX19_readAll_35 N x0 x3 x4 s0 s1 z) := by
  unfold fX19_readAll_35
  exact zw_c (wX19_canRead (ztr rfl hM)  h) (fun r1 z2 h1 => zw_i (wX19_readAll_48 (ztr rfl hM)  h1) (wX19_readAll_48 (ztr rfl hM)  h1))
def mX19_readAll_30 : Nat := 0x60000000000000000000000000000000000000000000000000000000000000000000000000040010004000000000000000000000000000000000000000000000000000000000000000000000000000000000000000000000000000000000000000000000000000000000000000000000000000000000000000000000000000000000000000000000000000000000000000000000000000000000000
theorem wX19_readAll_30 {M : Nat} {N : Nat} {x0 : Nat} {x3 : Int32} {x4 : Option Nat} {s0 : Nat} {z0 z : St} (hM : mX19_readAll_30 &&& M = mX19_readAll_30)  (h : zFr M z0 z) : zPw M z0 (fX19_readAll_30 N x0 x3 x4 s0 z) := by
  unfold fX19_readAll_30
  exact wX19_readAll_35 (ztr rfl hM)  h
def mX19_readAll : Nat := 0x60000000000000000000000000000000000000000000000000000000000000000000000000040010004000000000000000000000000000000000000000000000000000000000000000000000000000000000000000000000000000000000000000000000000000000000000000000000000000000000000000000000000000000000000000000000000000000000000000000000000000000000000
theorem wX19_readAll {M : Nat} {N : Nat} {x0 : Nat} {x1 : Int32} {x2 : Int32} {x3 : Int32} {z0 z : St} (hM : mX19_readAll &&& M = mX19_readAll)  (h : zFr M z0 z) : zPw M z0 (fX19_readAll N x0 x1 x2 x3 z) := by
  unfold fX19_readAll
  exact zw_c (wX19_endAt (ztr rfl hM)  h) (fun r1 z2 h1 => zw_c (wX19_isDoor (ztr rfl hM)  h1) (fun r5 z6 h2 => zw_i (wX19_readAll_30 (ztr rfl hM)  h2) (zw_i (wX19_readAll_30 (ztr rfl hM)  h2) (zw_i (wX19_readAll_35 (ztr rfl hM)  h2) (wX19_readAll_30 (ztr rfl hM)  h2)))))
def mX19_close_201 : Nat := 0x0
theorem wX19_close_201 {M : Nat} {N : Nat} {K126 : Nat → Int32 → Int32 → Int32 → St → Option (Int32 × St)} {x0 : Nat} {x1 : Int32} {x2 : Int32} {x7 : Int32} {z0 z : St} (hM : mX19_close_201 &&& M = mX19_close_201)  (hK126 : ∀ a0 a1 a2 a3 a4, zFr M z0 a4 → zPw M z0 (K126 a0 a1 a2 a3 a4)) (h : zFr M z0 z) : zPw M z0 (fX19_close_201 N K126 x0 x1 x2 x7 z) := by
  unfold fX19_close_201
  exact zw_l (fun v1 => hK126 _ _ _ _ _ h)
def mX19_close_195 : Nat := 0x200000000000000000000000000000000000000000000000000000000000000000000000000000000000000000000000000000000000000000000000000000000000000000000000000000000000000000000000000000000000000000000000000000000000000000
theorem wX19_close_195 {M : Nat} {N : Nat} {K126 : Nat → Int32 → Int32 → Int32 → St → Option (Int32 × St)} {x0 : Nat} {x1 : Int32} {x2 : Int32} {x7 : Int32} {x8 : Nat} {z0 z : St} (hM : mX19_close_195 &&& M = mX19_close_195)  (hK126 : ∀ a0 a1 a2 a3 a4, zFr M z0 a4 → zPw M z0 (K126 a0 a1 a2 a3 a4)) (h : zFr M z0 z) : zPw M z0 (fX19_close_195 N K126 x0 x1 x2 x7 x8 z) := by
  unfold fX19_close_195
  exact zw_lI h (ztb hM rfl) (fun z1 h1 => wX19_close_201 (ztr rfl hM) hK126 h1)
def mX19_close_126b : Nat := 0x803df00000100000000000000200000000000000000000000000000000000000000000000000000000000000000000000000000000000000000000000000000000000000000000000000000000000000000000000000000000000000000000000000000000000000000000000000000000000000000
theorem wX19_close_126b {M : Nat} {N : Nat} {K126 : Nat → Int32 → Int32 → Int32 → St → Option (Int32 × St)} {x0 : Nat} {x1 : Int32} {x2 : Int32} {x7 : Int32} {z0 z : St} (hM : mX19_close_126b &&& M = mX19_close_126b)  (hK126 : ∀ a0 a1 a2 a3 a4, zFr M z0 a4 → zPw M z0 (K126 a0 a1 a2 a3 a4)) (h : zFr M z0 z) : zPw M z0 (fX19_close_126b N K126 x0 x1 x2 x7 z) := by
  unfold fX19_close_126b
  exact zw_i (zw_s h) (zw_k (zw_l (fun y3 => zw_d (fun a4 => zw_k (zw_l (fun y6 => zw_d (fun a7 => zw_i (wX19_close_201 (ztr rfl hM) hK126 h) (zw_i (wX19_close_201 (ztr rfl hM) hK126 h) (zw_i (wX19_close_195 (ztr rfl hM) hK126 h) (zw_l (fun y11 => zw_d (fun a12 => zw_c (wX14_isDead (ztr rfl hM)  h) (fun r13 z14 h1 => zw_i (wX19_close_195 (ztr rfl hM) hK126 h1) (zw_l (fun y18 => zw_d (fun a19 => zw_c (wX14_abort (ztr rfl hM)  h1) (fun _ z21 h2 => wX19_close_195 (ztr rfl hM) hK126 h2)))))))))))))))))
def mX19_close_126 : Nat := 0x803df00000100000000000000200000000000000000000000000000000000000000000000000000000000000000000000000000000000000000000000000000000000000000000000000000000000000000000000000000000000000000000000000000000000000000000000000000000000000000
theorem wX19_close_126 {M : Nat} {z0 : St} {N : Nat}(hM : mX19_close_126 &&& M = mX19_close_126)  : ∀ (n : Nat) (y0 : Nat) (y1 : Int32) (y2 : Int32) (y3 : Int32) (z : St), zFr M z0 z → zPw M z0 (fX19_close_126 N n y0 y1 y2 y3 z) := by
  intro n
  induction n with
  | zero => intro y0 y1 y2 y3 z h; exact zw_n
  | succ n ih => intro y0 y1 y2 y3 z h; exact wX19_close_126b (ztr rfl hM)  (fun _ _ _ _ _ h => ih _ _ _ _ _ h) h
def mX19_close_88 : Nat := 0x2800000000000000000000000000000a020000000000000000000000000000000000000000000000000000000000000000000000003807df00020100000000000000290000000000000000000000000000000000000000000000000000000000000000000000000000000000000000000000000000000000000000000000000000000000000000000000000000000000000000000000000000000000000000000000000000000000000000
theorem wX19_close_88 {M : Nat} {N : Nat} {x0 : Nat} {x1 : Int32} {x2 : Int32} {x3 : Option Nat} {x5 : Int32} {s0 : Nat} {s1 : Int32} {s2 : Int32} {z0 z : St} (hM : mX19_close_88 &&& M = mX19_close_88)  (h : zFr M z0 z) : zPw M z0 (fX19_close_88 N x0 x1 x2 x3 x5 s0 s1 s2 z) := by
  unfold fX19_close_88
  exact zw_c (wX19_fails (ztr rfl hM)  h) (fun r1 z2 h1 => zw_i (zw_k (zw_l (fun y7 => zw_d (fun a8 => zw_k (zw_l (fun y10 => zw_c (wX19_stir (ztr rfl hM)  h1) (fun _ z12 h2 => zw_i (zw_d (fun a16 => zw_c (wX14_isDead (ztr rfl hM)  h2) (fun r17 z18 h3 => zw_i (zw_c (wX14_close (ztr rfl hM)  h3) (fun _ z23 h4 => zw_c (wX14_persist (ztr rfl hM)  h4) (fun _ z27 h5 => zw_s h5))) (zw_d (fun a30 => zw_c (wX19_takeEnd (ztr rfl hM)  h3) (fun _ z32 h6 => zw_s h6)))))) (zw_d (fun a35 => zw_lI h2 (ztb hM rfl) (fun z36 h7 => wX19_close_126 (ztr rfl hM)  _ _ _ _ _ _ h7)))))))))) (zw_s h1))
def mX19_close_83 : Nat := 0x2800000000000000000000000000000a020000000000000000000000000000000000000000000000000000000000000000000000003807df00020100000000000000290000000000000000000000000000000000000000000000000000000000000000000000000000000000000000000000000000000000000000000000000000000000000000000000000000000000000000000000000000000000000000000000000000000000000000
theorem wX19_close_83 {M : Nat} {N : Nat} {x0 : Nat} {x1 : Int32} {x2 : Int32} {x3 : Option Nat} {x5 : Int32} {s0 : Nat} {s1 : Int32} {z0 z : St} (hM : mX19_close_83 &&& M = mX19_close_83)  (h : zFr M z0 z) : zPw M z0 (fX19_close_83 N x0 x1 x2 x3 x5 s0 s1 z) := by
  unfold fX19_close_83
  exact wX19_close_88 (ztr rfl hM)  h
def mX19_close_87 : Nat := 0x2800000000000000000000000000000a020000000000000000000000000000000000000000000000000000000000000000000000003807df00020100000000000000290000000000000000000000000000000000000000000000000000000000000000000000000000000000000000000000000000000000000000000000000000000000000000000000000000000000000000000000000000000000000000000000000000000000000000
theorem wX19_close_87 {M : Nat} {N : Nat} {x0 : Nat} {x1 : Int32} {x2 : Int32} {x3 : Option Nat} {x5 : Int32} {s0 : Nat} {s1 : Int32} {z0 z : St} (hM : mX19_close_87 &&& M = mX19_close_87)  (h : zFr M z0 z) : zPw M z0 (fX19_close_87 N x0 x1 x2 x3 x5 s0 s1 z) := by
  unfold fX19_close_87
  exact wX19_close_88 (ztr rfl hM)  h
def mX19_close_55 : Nat := 0x2800000000000000000000000000000a020000000000000000000000000000000000000000000000000000000000000000000000003807df00020100000000000000290000000000000000000000000000000000000000000000000000000000000000000000000000000000000000000000000000000000000000000000000000000000000000000000000000000000000000000000000000000000000000000000000000000000000000
theorem wX19_close_55 {M : Nat} {N : Nat} {x0 : Nat} {x1 : Int32} {x2 : Int32} {x3 : Option Nat} {x4 : Int32} {x5 : Int32} {s0 : Nat} {s1 : Int32} {z0 z : St} (hM : mX19_close_55 &&& M = mX19_close_55)  (h : zFr M z0 z) : zPw M z0 (fX19_close_55 N x0 x1 x2 x3 x4 x5 s0 s1 z) := by
  unfold fX19_close_55
  exact zw_i (wX19_close_87 (ztr rfl hM)  h) (zw_i (wX19_close_87 (ztr rfl hM)  h) (zw_o (wX19_close_83 (ztr rfl hM)  h) (fun a4 => zw_i (wX19_close_87 (ztr rfl hM)  h) (zw_c (wX14_isDead (ztr rfl hM)  h) (fun r6 z7 h1 => zw_i (wX19_close_87 (ztr rfl hM)  h1) (wX19_close_83 (ztr rfl hM)  h1))))))
def mX19_close_42 : Nat := 0x2800000000000000000000000000000a020000000000000000000000000000000000000000000000000000000000000000000000003807df00020100000000000000290000000000000000000000000000000000000000000000000000000000000000000000000000000000000000000000000000000000000000000000000000000000000000000000000000000000000000000000000000000000000000000000000000000000000000
theorem wX19_close_42 {M : Nat} {N : Nat} {x0 : Nat} {x1 : Int32} {x2 : Int32} {x3 : Option Nat} {x4 : Int32} {s0 : Int32} {z0 z : St} (hM : mX19_close_42 &&& M = mX19_close_42)  (h : zFr M z0 z) : zPw M z0 (fX19_close_42 N x0 x1 x2 x3 x4 s0 z) := by
  unfold fX19_close_42
  exact zw_i (wX19_close_55 (ztr rfl hM)  h) (wX19_close_55 (ztr rfl hM)  h)
def mX19_close_41 : Nat := 0x2800000000000000000000000000000a020000000000000000000000000000000000000000000000000000000000000000000000003807df00020100000000000000290000000000000000000000000000000000000000000000000000000000000000000000000000000000000000000000000000000000000000000000000000000000000000000000000000000000000000000000000000000000000000000000000000000000000000
theorem wX19_close_41 {M : Nat} {N : Nat} {x0 : Nat} {x1 : Int32} {x2 : Int32} {x3 : Option Nat} {x4 : Int32} {z0 z : St} (hM : mX19_close_41 &&& M = mX19_close_41)  (h : zFr M z0 z) : zPw M z0 (fX19_close_41 N x0 x1 x2 x3 x4 z) := by
  unfold fX19_close_41
  exact wX19_close_42 (ztr rfl hM)  h
def mX19_close : Nat := 0x2800000000000000000000000000000a020000000000000000000000000000000000000000000000000000000000000000000000003807df00020100000000000000290000000000000000000000000000000000000000000000000000000000000000000000000000000000000000000000000000000000000000000000000000000000000000000000000000000000000000000000000000000000000000000000000000000000000000
theorem wX19_close {M : Nat} {N : Nat} {x0 : Nat} {x1 : Int32} {x2 : Int32} {z0 z : St} (hM : mX19_close &&& M = mX19_close)  (h : zFr M z0 z) : zPw M z0 (fX19_close N x0 x1 x2 z) := by
  unfold fX19_close
  exact zw_c (wX19_endAt (ztr rfl hM)  h) (fun r1 z2 h1 => zw_c (wX19_isDoor (ztr rfl hM)  h1) (fun r5 z6 h2 => zw_i (wX19_close_41 (ztr rfl hM)  h2) (zw_k (zw_l (fun y11 => zw_d (fun a12 => zw_k (zw_l (fun y14 => zw_d (fun a15 => zw_i (wX19_close_41 (ztr rfl hM)  h2) (wX19_close_42 (ztr rfl hM)  h2))))))))))
def mX19_abort_38 : Nat := 0xa000000000000000000000000000000000000000000000000000000000000000000000000000803df00000100000000000000000000000000000000000000000000000000000000000000000000000000000000000000000000000000000000000000000000000000000000000000000000000000000000000000000000000000000000000000000000000000000000000000000000000000000000
theorem wX19_abort_38 {M : Nat} {N : Nat} {x0 : Nat} {x3 : Option Nat} {s0 : Nat} {s1 : Int32} {s2 : Int32} {z0 z : St} (hM : mX19_abort_38 &&& M = mX19_abort_38)  (h : zFr M z0 z) : zPw M z0 (fX19_abort_38 N x0 x3 s0 s1 s2 z) := by
  unfold fX19_abort_38
  exact zw_c (wX19_fails (ztr rfl hM)  h) (fun r1 z2 h1 => zw_i (zw_s h1) (zw_d (fun a6 => zw_c (wX14_abort (ztr rfl hM)  h1) (fun _ z8 h2 => zw_c (wX19_stir (ztr rfl hM)  h2) (fun _ z12 h3 => zw_s h3)))))
def mX19_abort_33 : Nat := 0xa000000000000000000000000000000000000000000000000000000000000000000000000000803df00000100000000000000000000000000000000000000000000000000000000000000000000000000000000000000000000000000000000000000000000000000000000000000000000000000000000000000000000000000000000000000000000000000000000000000000000000000000000
theorem wX19_abort_33 {M : Nat} {N : Nat} {x0 : Nat} {x3 : Option Nat} {s0 : Nat} {s1 : Int32} {z0 z : St} (hM : mX19_abort_33 &&& M = mX19_abort_33)  (h : zFr M z0 z) : zPw M z0 (fX19_abort_33 N x0 x3 s0 s1 z) := by
  unfold fX19_abort_33
  exact wX19_abort_38 (ztr rfl hM)  h
def mX19_abort_22 : Nat := 0xa000000000000000000000000000000000000000000000000000000000000000000000000000803df00000100000000000000000000000000000000000000000000000000000000000000000000000000000000000000000000000000000000000000000000000000000000000000000000000000000000000000000000000000000000000000000000000000000000000000000000000000000000
theorem wX19_abort_22 {M : Nat} {N : Nat} {x0 : Nat} {x3 : Option Nat} {s0 : Nat} {s1 : Int32} {z0 z : St} (hM : mX19_abort_22 &&& M = mX19_abort_22)  (h : zFr M z0 z) : zPw M z0 (fX19_abort_22 N x0 x3 s0 s1 z) := by
  unfold fX19_abort_22
  exact zw_o (wX19_abort_33 (ztr rfl hM)  h) (fun a2 => zw_c (wX14_isDead (ztr rfl hM)  h) (fun r3 z4 h1 => zw_i (wX19_abort_38 (ztr rfl hM)  h1) (wX19_abort_33 (ztr rfl hM)  h1)))
def mX19_abort : Nat := 0xa000000000000000000000000000000000000000000000000000000000000000000000000000803df00000100000000000000000000000000000000000000000000000000000000000000000000000000000000000000000000000000000000000000000000000000000000000000000000000000000000000000000000000000000000000000000000000000000000000000000000000000000000
theorem wX19_abort {M : Nat} {N : Nat} {x0 : Nat} {x1 : Int32} {x2 : Int32} {z0 z : St} (hM : mX19_abort &&& M = mX19_abort)  (h : zFr M z0 z) : zPw M z0 (fX19_abort N x0 x1 x2 z) := by
  unfold fX19_abort
  exact zw_c (wX19_endAt (ztr rfl hM)  h) (fun r1 z2 h1 => zw_c (wX19_isDoor (ztr rfl hM)  h1) (fun r5 z6 h2 => zw_i (wX19_abort_22 (ztr rfl hM)  h2) (wX19_abort_22 (ztr rfl hM)  h2)))
def mX19_door_221 : Nat := 0x0
theorem wX19_door_221 {M : Nat} {N : Nat} {z0 z : St} (hM : mX19_door_221 &&& M = mX19_door_221)  (h : zFr M z0 z) : zPw M z0 (fX19_door_221 N z) := by
  unfold fX19_door_221
  exact zw_s h
def mX19_door_64 : Nat := 0x0
theorem wX19_door_64 {M : Nat} {N : Nat} {x3 : Int32} {x4 : Nat} {s0 : Option Nat} {z0 z : St} (hM : mX19_door_64 &&& M = mX19_door_64)  (h : zFr M z0 z) : zPw M z0 (fX19_door_64 N x3 x4 s0 z) := by
  unfold fX19_door_64
  exact zw_i (zw_i (zw_o (zw_s h) (fun a4 => zw_s h)) (zw_s h)) (zw_i (zw_i (zw_o (zw_s h) (fun a8 => zw_s h)) (zw_s h)) (zw_i (zw_o (zw_s h) (fun a11 => zw_s h)) (zw_i (zw_o (zw_s h) (fun a14 => zw_s h)) (zw_i (zw_o (zw_s h) (fun a17 => zw_c (wX14_readable (ztr rfl hM)  h) (fun r18 z19 h1 => zw_s h1))) (zw_i (zw_o (wX19_door_221 (ztr rfl hM)  h) (fun a24 => zw_c (wX14_canWrite (ztr rfl hM)  h) (fun r25 z26 h2 => zw_i (zw_c (wX14_unthanked (ztr rfl hM)  h2) (fun r30 z31 h3 => zw_s h3)) (wX19_door_221 (ztr rfl hM)  h2)))) (zw_o (zw_s h) (fun a35 => zw_c (wX14_unthanked (ztr rfl hM)  h) (fun r36 z37 h4 => zw_s h4))))))))
def mX19_door_25 : Nat := 0x20000000000000000000000000000000000000000000000000000000000000000000000000000000000000000000000000000000000000000000000000000000000000000000000000000000000000000000000000000000000000000000000000000000000000000000000000000000000000000000000000000000000000000000000000000000000000000000000000000000000000000000000
theorem wX19_door_25 {M : Nat} {N : Nat} {x0 : Nat} {x1 : Int32} {x2 : Int32} {x3 : Int32} {s0 : Nat} {s1 : Int32} {z0 z : St} (hM : mX19_door_25 &&& M = mX19_door_25)  (h : zFr M z0 z) : zPw M z0 (fX19_door_25 N x0 x1 x2 x3 s0 s1 z) := by
  unfold fX19_door_25
  exact zw_c (wX19_fails (ztr rfl hM)  h) (fun r1 z2 h1 => zw_i (zw_k (zw_l (fun y7 => zw_d (fun a8 => zw_k (zw_l (fun y10 => zw_d (fun a11 => zw_i (wX19_door_64 (ztr rfl hM)  h1) (zw_l (fun y13 => wX19_door_64 (ztr rfl hM)  h1))))))))) (zw_s h1))
def mX19_door_20 : Nat := 0x20000000000000000000000000000000000000000000000000000000000000000000000000000000000000000000000000000000000000000000000000000000000000000000000000000000000000000000000000000000000000000000000000000000000000000000000000000000000000000000000000000000000000000000000000000000000000000000000000000000000000000000000
theorem wX19_door_20 {M : Nat} {N : Nat} {x0 : Nat} {x1 : Int32} {x2 : Int32} {x3 : Int32} {s0 : Nat} {z0 z : St} (hM : mX19_door_20 &&& M = mX19_door_20)  (h : zFr M z0 z) : zPw M z0 (fX19_door_20 N x0 x1 x2 x3 s0 z) := by
  unfold fX19_door_20
  exact wX19_door_25 (ztr rfl hM)  h
def mX19_door : Nat := 0x20000000000000000000000000000000000000000000000000000000000000000000000000000000000000000000000000000000000000000000000000000000000000000000000000000000000000000000000000000000000000000000000000000000000000000000000000000000000000000000000000000000000000000000000000000000000000000000000000000000000000000000000
theorem wX19_door {M : Nat} {N : Nat} {x0 : Nat} {x1 : Int32} {x2 : Int32} {x3 : Int32} {z0 z : St} (hM : mX19_door &&& M = mX19_door)  (h : zFr M z0 z) : zPw M z0 (fX19_door N x0 x1 x2 x3 z) := by
  unfold fX19_door
  exact zw_c (wX19_isDoor (ztr rfl hM)  h) (fun r1 z2 h1 => zw_i (wX19_door_20 (ztr rfl hM)  h1) (zw_i (wX19_door_20 (ztr rfl hM)  h1) (zw_i (wX19_door_25 (ztr rfl hM)  h1) (wX19_door_20 (ztr rfl hM)  h1))))
def mX19_way_31 : Nat := 0x20000000000000000000000000000000000000000000000000000000000000000000000000000000000000000000000000000000000000000000000000000000000000000000000000000000000000000000000000000000000000000000000000000000000000000000000000000000000000000000000000000000000000000000000000000000000000000000000000000000000000000000000
theorem wX19_way_31 {M : Nat} {N : Nat} {x0 : Nat} {x1 : Int32} {x2 : Int32} {x3 : Int32} {s0 : Nat} {s1 : Int32} {z0 z : St} (hM : mX19_way_31 &&& M = mX19_way_31)  (h : zFr M z0 z) : zPw M z0 (fX19_way_31 N x0 x1 x2 x3 s0 s1 z) := by
  unfold fX19_way_31
  exact zw_c (wX19_fails (ztr rfl hM)  h) (fun r1 z2 h1 => zw_i (zw_k (zw_l (fun y7 => zw_i (zw_i (zw_d (fun a10 => zw_k (zw_s h1))) (zw_d (fun a12 => zw_k (zw_s h1)))) (zw_d (fun a14 => zw_k (zw_s h1)))))) (zw_s h1))
def mX19_way_26 : Nat := 0x20000000000000000000000000000000000000000000000000000000000000000000000000000000000000000000000000000000000000000000000000000000000000000000000000000000000000000000000000000000000000000000000000000000000000000000000000000000000000000000000000000000000000000000000000000000000000000000000000000000000000000000000
theorem wX19_way_26 {M : Nat} {N : Nat} {x0 : Nat} {x1 : Int32} {x2 : Int32} {x3 : Int32} {s0 : Nat} {z0 z : St} (hM : mX19_way_26 &&& M = mX19_way_26)  (h : zFr M z0 z) : zPw M z0 (fX19_way_26 N x0 x1 x2 x3 s0 z) := by
  unfold fX19_way_26
  exact wX19_way_31 (ztr rfl hM)  h
def mX19_way : Nat := 0x20000000000000000000000000000000000000000000000000000000000000000000000000000000000000000000000000000000000000000000000000000000000000000000000000000000000000000000000000000000000000000000000000000000000000000000000000000000000000000000000000000000000000000000000000000000000000000000000000000000000000000000000
theorem wX19_way {M : Nat} {N : Nat} {x0 : Nat} {x1 : Int32} {x2 : Int32} {x3 : Int32} {z0 z : St} (hM : mX19_way &&& M = mX19_way)  (h : zFr M z0 z) : zPw M z0 (fX19_way N x0 x1 x2 x3 z) := by
  unfold fX19_way
  exact zw_c (wX19_isRouter (ztr rfl hM)  h) (fun r1 z2 h1 => zw_i (wX19_way_26 (ztr rfl hM)  h1) (zw_c (wX19_isNet (ztr rfl hM)  h1) (fun r6 z7 h2 => zw_i (wX19_way_26 (ztr rfl hM)  h2) (zw_i (wX19_way_26 (ztr rfl hM)  h2) (zw_i (wX19_way_31 (ztr rfl hM)  h2) (wX19_way_26 (ztr rfl hM)  h2))))))
def mX19_friends_30 : Nat := 0x20000000000000000000000000000000000000000000000000000000000000000000000000000000000000000000000000000000000000000000000000000000000000000000000000000000000000000000000000000000000000000000000000000000000000000000000000000000000000000000000000000000000000000000000000000000000000000000000000000000000000000000000
theorem wX19_friends_30 {M : Nat} {N : Nat} {x0 : Nat} {x1 : Int32} {x2 : Int32} {x3 : Int32} {s0 : Nat} {s1 : Int32} {z0 z : St} (hM : mX19_friends_30 &&& M = mX19_friends_30)  (h : zFr M z0 z) : zPw M z0 (fX19_friends_30 N x0 x1 x2 x3 s0 s1 z) := by
  unfold fX19_friends_30
  exact zw_c (wX19_fails (ztr rfl hM)  h) (fun r1 z2 h1 => zw_i (zw_c (wX19_portOn (ztr rfl hM)  h1) (fun r6 z7 h2 => zw_o (zw_s h2) (fun a11 => zw_i (zw_s h2) (zw_l (fun y13 => zw_d (fun a14 => zw_c (wX19_friend (ztr rfl hM)  h2) (fun r15 z16 h3 => zw_o (zw_s h3) (fun a20 => zw_s h3)))))))) (zw_s h1))
def mX19_friends_25 : Nat := 0x20000000000000000000000000000000000000000000000000000000000000000000000000000000000000000000000000000000000000000000000000000000000000000000000000000000000000000000000000000000000000000000000000000000000000000000000000000000000000000000000000000000000000000000000000000000000000000000000000000000000000000000000
theorem wX19_friends_25 {M : Nat} {N : Nat} {x0 : Nat} {x1 : Int32} {x2 : Int32} {x3 : Int32} {s0 : Nat} {z0 z : St} (hM : mX19_friends_25 &&& M = mX19_friends_25)  (h : zFr M z0 z) : zPw M z0 (fX19_friends_25 N x0 x1 x2 x3 s0 z) := by
  unfold fX19_friends_25
  exact wX19_friends_30 (ztr rfl hM)  h
def mX19_friends : Nat := 0x20000000000000000000000000000000000000000000000000000000000000000000000000000000000000000000000000000000000000000000000000000000000000000000000000000000000000000000000000000000000000000000000000000000000000000000000000000000000000000000000000000000000000000000000000000000000000000000000000000000000000000000000
theorem wX19_friends {M : Nat} {N : Nat} {x0 : Nat} {x1 : Int32} {x2 : Int32} {x3 : Int32} {z0 z : St} (hM : mX19_friends &&& M = mX19_friends)  (h : zFr M z0 z) : zPw M z0 (fX19_friends N x0 x1 x2 x3 z) := by
  unfold fX19_friends
  exact zw_c (wX19_isRouter (ztr rfl hM)  h) (fun r1 z2 h1 => zw_i (wX19_friends_25 (ztr rfl hM)  h1) (zw_c (wX19_isRouter (ztr rfl hM)  h1) (fun r6 z7 h2 => zw_i (wX19_friends_25 (ztr rfl hM)  h2) (zw_c (wX19_isNet (ztr rfl hM)  h2) (fun r11 z12 h3 => zw_i (wX19_friends_30 (ztr rfl hM)  h3) (wX19_friends_25 (ztr rfl hM)  h3))))))
def mX19_advert_22 : Nat := 0x20000000000000000000000000000000000000000000000000000000000000000000000000000000000000000000000000000000000000000000000000000000000000000000000000000000000000000000000000000000000000000000000000000000000000000000000000000000000000000000000000000000000000000000000000000000000000000000000000000000000000000000000
theorem wX19_advert_22 {M : Nat} {N : Nat} {x0 : Nat} {x1 : Int32} {x2 : Int32} {s0 : Nat} {s1 : Int32} {z0 z : St} (hM : mX19_advert_22 &&& M = mX19_advert_22)  (h : zFr M z0 z) : zPw M z0 (fX19_advert_22 N x0 x1 x2 s0 s1 z) := by
  unfold fX19_advert_22
  exact zw_c (wX19_fails (ztr rfl hM)  h) (fun r1 z2 h1 => zw_i (zw_k (zw_l (fun y7 => zw_d (fun a8 => zw_k (zw_l (fun v10 => zw_i (zw_c (wX19_ad (ztr rfl hM)  h1) (fun r12 z13 h2 => zw_s h2)) (zw_s h1))))))) (zw_s h1))
def mX19_advert_17 : Nat := 0x20000000000000000000000000000000000000000000000000000000000000000000000000000000000000000000000000000000000000000000000000000000000000000000000000000000000000000000000000000000000000000000000000000000000000000000000000000000000000000000000000000000000000000000000000000000000000000000000000000000000000000000000
theorem wX19_advert_17 {M : Nat} {N : Nat} {x0 : Nat} {x1 : Int32} {x2 : Int32} {s0 : Nat} {z0 z : St} (hM : mX19_advert_17 &&& M = mX19_advert_17)  (h : zFr M z0 z) : zPw M z0 (fX19_advert_17 N x0 x1 x2 s0 z) := by
  unfold fX19_advert_17
  exact wX19_advert_22 (ztr rfl hM)  h
def mX19_advert : Nat := 0x20000000000000000000000000000000000000000000000000000000000000000000000000000000000000000000000000000000000000000000000000000000000000000000000000000000000000000000000000000000000000000000000000000000000000000000000000000000000000000000000000000000000000000000000000000000000000000000000000000000000000000000000
theorem wX19_advert {M : Nat} {N : Nat} {x0 : Nat} {x1 : Int32} {x2 : Int32} {z0 z : St} (hM : mX19_advert &&& M = mX19_advert)  (h : zFr M z0 z) : zPw M z0 (fX19_advert N x0 x1 x2 z) := by
  unfold fX19_advert
  exact zw_c (wX19_isRouter (ztr rfl hM)  h) (fun r1 z2 h1 => zw_i (wX19_advert_17 (ztr rfl hM)  h1) (zw_c (wX19_isRouter (ztr rfl hM)  h1) (fun r6 z7 h2 => zw_i (wX19_advert_22 (ztr rfl hM)  h2) (wX19_advert_17 (ztr rfl hM)  h2))))
def mX19_count_52 : Nat := 0x20000000000000000000000000000000000000000000000000000000000000000000000000000000000000000000000000000000000000000000000000000000000000000000000000000000000000000000000000000000000000000000000000000000000000000000000000000000000000000000000000000000000000000000000000000000000000000000000000000000000000000000000
theorem wX19_count_52 {M : Nat} {N : Nat} {x0 : Nat} {x1 : Int32} {x2 : Int32} {s0 : Nat} {s1 : Int32} {z0 z : St} (hM : mX19_count_52 &&& M = mX19_count_52)  (h : zFr M z0 z) : zPw M z0 (fX19_count_52 N x0 x1 x2 s0 s1 z) := by
  unfold fX19_count_52
  exact zw_c (wX19_fails (ztr rfl hM)  h) (fun r1 z2 h1 => zw_i (zw_i (zw_k (zw_l (fun y8 => zw_i (zw_i (zw_i (zw_i (zw_i (zw_d (fun a14 => zw_s h1)) (zw_d (fun a15 => zw_s h1))) (zw_d (fun a16 => zw_s h1))) (zw_d (fun a17 => zw_s h1))) (zw_d (fun a18 => zw_s h1))) (zw_d (fun a19 => zw_s h1))))) (zw_i (zw_k (zw_l (fun y22 => zw_d (fun a23 => zw_s h1)))) (zw_k (zw_l (fun y25 => zw_d (fun a26 => zw_s h1)))))) (zw_s h1))
def mX19_count_41 : Nat := 0x20000000000000000000000000000000000000000000000000000000000000000000000000000000000000000000000000000000000000000000000000000000000000000000000000000000000000000000000000000000000000000000000000000000000000000000000000000000000000000000000000000000000000000000000000000000000000000000000000000000000000000000000
theorem wX19_count_41 {M : Nat} {N : Nat} {x0 : Nat} {x1 : Int32} {x2 : Int32} {s0 : Int32} {z0 z : St} (hM : mX19_count_41 &&& M = mX19_count_41)  (h : zFr M z0 z) : zPw M z0 (fX19_count_41 N x0 x1 x2 s0 z) := by
  unfold fX19_count_41
  exact zw_i (wX19_count_52 (ztr rfl hM)  h) (wX19_count_52 (ztr rfl hM)  h)
def mX19_count_36 : Nat := 0x20000000000000000000000000000000000000000000000000000000000000000000000000000000000000000000000000000000000000000000000000000000000000000000000000000000000000000000000000000000000000000000000000000000000000000000000000000000000000000000000000000000000000000000000000000000000000000000000000000000000000000000000
theorem wX19_count_36 {M : Nat} {N : Nat} {x0 : Nat} {x1 : Int32} {x2 : Int32} {z0 z : St} (hM : mX19_count_36 &&& M = mX19_count_36)  (h : zFr M z0 z) : zPw M z0 (fX19_count_36 N x0 x1 x2 z) := by
  unfold fX19_count_36
  exact wX19_count_41 (ztr rfl hM)  h
def mX19_count_40 : Nat := 0x20000000000000000000000000000000000000000000000000000000000000000000000000000000000000000000000000000000000000000000000000000000000000000000000000000000000000000000000000000000000000000000000000000000000000000000000000000000000000000000000000000000000000000000000000000000000000000000000000000000000000000000000
theorem wX19_count_40 {M : Nat} {N : Nat} {x0 : Nat} {x1 : Int32} {x2 : Int32} {z0 z : St} (hM : mX19_count_40 &&& M = mX19_count_40)  (h : zFr M z0 z) : zPw M z0 (fX19_count_40 N x0 x1 x2 z) := by
  unfold fX19_count_40
  exact wX19_count_41 (ztr rfl hM)  h
def mX19_count_17 : Nat := 0x20000000000000000000000000000000000000000000000000000000000000000000000000000000000000000000000000000000000000000000000000000000000000000000000000000000000000000000000000000000000000000000000000000000000000000000000000000000000000000000000000000000000000000000000000000000000000000000000000000000000000000000000
theorem wX19_count_17 {M : Nat} {N : Nat} {x0 : Nat} {x1 : Int32} {x2 : Int32} {z0 z : St} (hM : mX19_count_17 &&& M = mX19_count_17)  (h : zFr M z0 z) : zPw M z0 (fX19_count_17 N x0 x1 x2 z) := by
  unfold fX19_count_17
  exact zw_i (wX19_count_40 (ztr rfl hM)  h) (zw_i (wX19_count_40 (ztr rfl hM)  h) (zw_c (wX19_isBox (ztr rfl hM)  h) (fun r3 z4 h1 => zw_i (wX19_count_40 (ztr rfl hM)  h1) (wX19_count_36 (ztr rfl hM)  h1))))
def mX19_count : Nat := 0x20000000000000000000000000000000000000000000000000000000000000000000000000000000000000000000000000000000000000000000000000000000000000000000000000000000000000000000000000000000000000000000000000000000000000000000000000000000000000000000000000000000000000000000000000000000000000000000000000000000000000000000000
theorem wX19_count {M : Nat} {N : Nat} {x0 : Nat} {x1 : Int32} {x2 : Int32} {z0 z : St} (hM : mX19_count &&& M = mX19_count)  (h : zFr M z0 z) : zPw M z0 (fX19_count N x0 x1 x2 z) := by
  unfold fX19_count
  exact zw_i (wX19_count_17 (ztr rfl hM)  h) (zw_i (wX19_count_17 (ztr rfl hM)  h) (zw_c (wX19_isNet (ztr rfl hM)  h) (fun r3 z4 h1 => zw_i (wX19_count_36 (ztr rfl hM)  h1) (wX19_count_17 (ztr rfl hM)  h1))))
def mX19_underWay : Nat := 0x20000000000000000000000000000000000000000000000000000000000000000000000000000000000000000000000000000000000000000000000000000000000000000000000000000000000000000000000000000000000000000000000000000000000000000000000000000000000000000000000000000000000000000000000000000000000000000000000000000000000000000000000
theorem wX19_underWay {M : Nat} {N : Nat} {x0 : Nat} {z0 z : St} (hM : mX19_underWay &&& M = mX19_underWay)  (h : zFr M z0 z) : zPw M z0 (fX19_underWay N x0 z) := by
  unfold fX19_underWay
  exact zw_lI h (ztb hM rfl) (fun z1 h1 => zw_s h1)
def mX19_time : Nat := 0x20000000000000000000000000000000000000000000000000000000000000000000000000000000000000000000000000000000000000000000000000000000000000000000000000000000000000000000000000000000000000000000000000000000000000000000000000000000000000000000000000000000000000000000000000000000000000000000000000000000000000000000000
theorem wX19_time {M : Nat} {N : Nat} {x0 : Nat} {z0 z : St} (hM : mX19_time &&& M = mX19_time)  (h : zFr M z0 z) : zPw M z0 (fX19_time N x0 z) := by
  unfold fX19_time
  exact zw_lI h (ztb hM rfl) (fun z1 h1 => zw_s h1)
def mX19_goOn_97 : Nat := 0x0
theorem wX19_goOn_97 {M : Nat} {N : Nat} {K5 : Nat → Int32 → Nat → Int32 → Int32 → St → Option (Int32 × St)} {x0 : Nat} {x1 : Int32} {x2 : Nat} {x3 : Int32} {x4 : Int32} {z0 z : St} (hM : mX19_goOn_97 &&& M = mX19_goOn_97)  (hK5 : ∀ a0 a1 a2 a3 a4 a5, zFr M z0 a5 → zPw M z0 (K5 a0 a1 a2 a3 a4 a5)) (h : zFr M z0 z) : zPw M z0 (fX19_goOn_97 N K5 x0 x1 x2 x3 x4 z) := by
  unfold fX19_goOn_97
  exact zw_l (fun v1 => hK5 _ _ _ _ _ _ h)
def mX19_goOn_5b : Nat := 0x8000000000000000000000000000000000000000000000000000000000000000000000000000000000000000000000000000000000000000000000000000000000000000000000000000000000000000000000000000000000000000000000000000000000000000000000000000000000000000000000000000000000000000000000000000000000000000000000000000000000000000000000000000000000000000000000000000000
theorem wX19_goOn_5b {M : Nat} {N : Nat} {K5 : Nat → Int32 → Nat → Int32 → Int32 → St → Option (Int32 × St)} {x0 : Nat} {x1 : Int32} {x2 : Nat} {x3 : Int32} {x4 : Int32} {z0 z : St} (hM : mX19_goOn_5b &&& M = mX19_goOn_5b)  (hK5 : ∀ a0 a1 a2 a3 a4 a5, zFr M z0 a5 → zPw M z0 (K5 a0 a1 a2 a3 a4 a5)) (h : zFr M z0 z) : zPw M z0 (fX19_goOn_5b N K5 x0 x1 x2 x3 x4 z) := by
  unfold fX19_goOn_5b
  exact zw_l (fun y1 => zw_d (fun a2 => zw_i (zw_q (zw_s h)) (zw_l (fun y5 => zw_d (fun a6 => zw_i (zw_q (zw_s h)) (zw_l (fun y9 => zw_d (fun a10 => zw_k (zw_l (fun y12 => zw_d (fun a13 => zw_l (fun y14 => zw_d (fun a15 => zw_i (wX19_goOn_97 (ztr rfl hM) hK5 h) (zw_k (zw_k (zw_i (wX19_goOn_97 (ztr rfl hM) hK5 h) (zw_k (zw_k (zw_lA h (ztb hM rfl) (fun z22 h1 => wX19_goOn_97 (ztr rfl hM) hK5 h1))))))))))))))))))))
def mX19_goOn_5 : Nat := 0x8000000000000000000000000000000000000000000000000000000000000000000000000000000000000000000000000000000000000000000000000000000000000000000000000000000000000000000000000000000000000000000000000000000000000000000000000000000000000000000000000000000000000000000000000000000000000000000000000000000000000000000000000000000000000000000000000000000
theorem wX19_goOn_5 {M : Nat} {z0 : St} {N : Nat}(hM : mX19_goOn_5 &&& M = mX19_goOn_5)  : ∀ (n : Nat) (y0 : Nat) (y1 : Int32) (y2 : Nat) (y3 : Int32) (y4 : Int32) (z : St), zFr M z0 z → zPw M z0 (fX19_goOn_5 N n y0 y1 y2 y3 y4 z) := by
  intro n
  induction n with
  | zero => intro y0 y1 y2 y3 y4 z h; exact zw_n
  | succ n ih => intro y0 y1 y2 y3 y4 z h; exact wX19_goOn_5b (ztr rfl hM)  (fun _ _ _ _ _ _ h => ih _ _ _ _ _ _ h) h
def mX19_goOn : Nat := 0x8000000000000000000000000000000000000000000000000000000000000000000000000000000000000000000000000000000000000000000000000000000000000000000000000000000000000000000000000000000000000000000000000000000000000000000000000000000000000000000000000000000000000000000000000000000000000000000000000000000000000000000000000000000000000000000000000000000
theorem wX19_goOn {M : Nat} {N : Nat} {x0 : Nat} {x1 : Int32} {x2 : Nat} {z0 z : St} (hM : mX19_goOn &&& M = mX19_goOn)  (h : zFr M z0 z) : zPw M z0 (fX19_goOn N x0 x1 x2 z) := by
  unfold fX19_goOn
  exact wX19_goOn_5 (ztr rfl hM)  _ _ _ _ _ _ _ h
def mX19_fromAbove_25 : Nat := 0x8000000000000000000000000000000000000000000000000000000000000000000000000000000000000000000000000000000000000000000000000000000000000000000000000000000000000000000000000000000000000000000000000000000000000000000000000000000000000000000000000000000000000000000000000000000000000000000000000000000000000000000000000000000000000000000000000000000
theorem wX19_fromAbove_25 {M : Nat} {N : Nat} {K2 : Nat → Int32 → Int32 → St → Option (Int32 × St)} {x0 : Nat} {x1 : Int32} {x2 : Int32} {s0 : Nat} {s1 : Int32} {s2 : Int32} {z0 z : St} (hM : mX19_fromAbove_25 &&& M = mX19_fromAbove_25)  (hK2 : ∀ a0 a1 a2 a3, zFr M z0 a3 → zPw M z0 (K2 a0 a1 a2 a3)) (h : zFr M z0 z) : zPw M z0 (fX19_fromAbove_25 N K2 x0 x1 x2 s0 s1 s2 z) := by
  unfold fX19_fromAbove_25
  exact zw_k (zw_lA h (ztb hM rfl) (fun z2 h1 => zw_l (fun v3 => hK2 _ _ _ _ h1)))
def mX19_fromAbove_116 : Nat := 0x0
theorem wX19_fromAbove_116 {M : Nat} {N : Nat} {K34 : Nat → Int32 → St → Option (Int32 × St)} {K42 : Nat → Int32 → Int32 → St → Option (Int32 × St)} {K53 : Nat → Int32 → Int32 → Int32 → St → Option (Int32 × St)} {x0 : Nat} {x3 : Int32} {x4 : Int32} {s0 : Int32} {z0 z : St} (hM : mX19_fromAbove_116 &&& M = mX19_fromAbove_116)  (hK34 : ∀ a0 a1 a2, zFr M z0 a2 → zPw M z0 (K34 a0 a1 a2)) (hK42 : ∀ a0 a1 a2 a3, zFr M z0 a3 → zPw M z0 (K42 a0 a1 a2 a3)) (hK53 : ∀ a0 a1 a2 a3 a4, zFr M z0 a4 → zPw M z0 (K53 a0 a1 a2 a3 a4)) (h : zFr M z0 z) : zPw M z0 (fX19_fromAbove_116 N K34 K42 K53 x0 x3 x4 s0 z) := by
  unfold fX19_fromAbove_116
  exact zw_l (fun v1 => hK53 _ _ _ _ _ h)
def mX19_fromAbove_111 : Nat := 0x0
theorem wX19_fromAbove_111 {M : Nat} {N : Nat} {K34 : Nat → Int32 → St → Option (Int32 × St)} {K42 : Nat → Int32 → Int32 → St → Option (Int32 × St)} {K53 : Nat → Int32 → Int32 → Int32 → St → Option (Int32 × St)} {x0 : Nat} {x3 : Int32} {x4 : Int32} {z0 z : St} (hM : mX19_fromAbove_111 &&& M = mX19_fromAbove_111)  (hK34 : ∀ a0 a1 a2, zFr M z0 a2 → zPw M z0 (K34 a0 a1 a2)) (hK42 : ∀ a0 a1 a2 a3, zFr M z0 a3 → zPw M z0 (K42 a0 a1 a2 a3)) (hK53 : ∀ a0 a1 a2 a3 a4, zFr M z0 a4 → zPw M z0 (K53 a0 a1 a2 a3 a4)) (h : zFr M z0 z) : zPw M z0 (fX19_fromAbove_111 N K34 K42 K53 x0 x3 x4 z) := by
  unfold fX19_fromAbove_111
  exact wX19_fromAbove_116 (ztr rfl hM) hK34 hK42 hK53 h
def mX19_fromAbove_123 : Nat := 0x0
theorem wX19_fromAbove_123 {M : Nat} {N : Nat} {K34 : Nat → Int32 → St → Option (Int32 × St)} {K42 : Nat → Int32 → Int32 → St → Option (Int32 × St)} {x0 : Nat} {x2 : Int32} {x3 : Int32} {z0 z : St} (hM : mX19_fromAbove_123 &&& M = mX19_fromAbove_123)  (hK34 : ∀ a0 a1 a2, zFr M z0 a2 → zPw M z0 (K34 a0 a1 a2)) (hK42 : ∀ a0 a1 a2 a3, zFr M z0 a3 → zPw M z0 (K42 a0 a1 a2 a3)) (h : zFr M z0 z) : zPw M z0 (fX19_fromAbove_123 N K34 K42 x0 x2 x3 z) := by
  unfold fX19_fromAbove_123
  exact zw_l (fun v1 => hK42 _ _ _ _ h)
def mX19_fromAbove_53b : Nat := 0x8000000000000000000000000000000000000000000000000000000000000000000000000000000000000000000000000000000000000000000000000000000000000000000000000000000000000000000000000000000000000000000000000000000000000000000000000000000000000000000000000000000000000000000000000000000000000000000000000000000000000000000000000000000000000000000000000000000
theorem wX19_fromAbove_53b {M : Nat} {N : Nat} {K34 : Nat → Int32 → St → Option (Int32 × St)} {K42 : Nat → Int32 → Int32 → St → Option (Int32 × St)} {K53 : Nat → Int32 → Int32 → Int32 → St → Option (Int32 × St)} {x0 : Nat} {x2 : Int32} {x3 : Int32} {x4 : Int32} {z0 z : St} (hM : mX19_fromAbove_53b &&& M = mX19_fromAbove_53b)  (hK34 : ∀ a0 a1 a2, zFr M z0 a2 → zPw M z0 (K34 a0 a1 a2)) (hK42 : ∀ a0 a1 a2 a3, zFr M z0 a3 → zPw M z0 (K42 a0 a1 a2 a3)) (hK53 : ∀ a0 a1 a2 a3 a4, zFr M z0 a4 → zPw M z0 (K53 a0 a1 a2 a3 a4)) (h : zFr M z0 z) : zPw M z0 (fX19_fromAbove_53b N K34 K42 K53 x0 x2 x3 x4 z) := by
  unfold fX19_fromAbove_53b
  exact zw_c (wX19_isRouter (ztr rfl hM)  h) (fun r1 z2 h1 => zw_i (wX19_fromAbove_123 (ztr rfl hM) hK34 hK42 h1) (zw_k (zw_i (wX19_fromAbove_123 (ztr rfl hM) hK34 hK42 h1) (zw_k (zw_l (fun y9 => zw_d (fun a10 => zw_i (wX19_fromAbove_123 (ztr rfl hM) hK34 hK42 h1) (zw_k (zw_l (fun y13 => zw_d (fun a14 => zw_k (zw_l (fun y16 => zw_d (fun a17 => zw_c (wX19_goOn (ztr rfl hM)  h1) (fun r18 z19 h2 => zw_i (wX19_fromAbove_111 (ztr rfl hM) hK34 hK42 hK53 h2) (zw_i (wX19_fromAbove_116 (ztr rfl hM) hK34 hK42 hK53 h2) (wX19_fromAbove_111 (ztr rfl hM) hK34 hK42 hK53 h2)))))))))))))))))
def mX19_fromAbove_53 : Nat := 0x8000000000000000000000000000000000000000000000000000000000000000000000000000000000000000000000000000000000000000000000000000000000000000000000000000000000000000000000000000000000000000000000000000000000000000000000000000000000000000000000000000000000000000000000000000000000000000000000000000000000000000000000000000000000000000000000000000000
theorem wX19_fromAbove_53 {M : Nat} {z0 : St} {N : Nat} {K34 : Nat → Int32 → St → Option (Int32 × St)} {K42 : Nat → Int32 → Int32 → St → Option (Int32 × St)}(hM : mX19_fromAbove_53 &&& M = mX19_fromAbove_53)  (hK34 : ∀ a0 a1 a2, zFr M z0 a2 → zPw M z0 (K34 a0 a1 a2)) (hK42 : ∀ a0 a1 a2 a3, zFr M z0 a3 → zPw M z0 (K42 a0 a1 a2 a3)) : ∀ (n : Nat) (y0 : Nat) (y1 : Int32) (y2 : Int32) (y3 : Int32) (z : St), zFr M z0 z → zPw M z0 (fX19_fromAbove_53 N K34 K42 n y0 y1 y2 y3 z) := by
  intro n
  induction n with
  | zero => intro y0 y1 y2 y3 z h; exact zw_n
  | succ n ih => intro y0 y1 y2 y3 z h; exact wX19_fromAbove_53b (ztr rfl hM) hK34 hK42 (fun _ _ _ _ _ h => ih _ _ _ _ _ h) h
def mX19_fromAbove_42b : Nat := 0x8000000000000000000000000000000000000000000000000000000000000000000000000000000000000000000000000000000000000000000000000000000000000000000000000000000000000000000000000000000000000000000000000000000000000000000000000000000000000000000000000000000000000000000000000000000000000000000000000000000000000000000000000000000000000000000000000000000
theorem wX19_fromAbove_42b {M : Nat} {N : Nat} {K34 : Nat → Int32 → St → Option (Int32 × St)} {K42 : Nat → Int32 → Int32 → St → Option (Int32 × St)} {x0 : Nat} {x2 : Int32} {x3 : Int32} {z0 z : St} (hM : mX19_fromAbove_42b &&& M = mX19_fromAbove_42b)  (hK34 : ∀ a0 a1 a2, zFr M z0 a2 → zPw M z0 (K34 a0 a1 a2)) (hK42 : ∀ a0 a1 a2 a3, zFr M z0 a3 → zPw M z0 (K42 a0 a1 a2 a3)) (h : zFr M z0 z) : zPw M z0 (fX19_fromAbove_42b N K34 K42 x0 x2 x3 z) := by
  unfold fX19_fromAbove_42b
  exact zw_i (hK34 _ _ _ h) (wX19_fromAbove_53 (ztr rfl hM) hK34 hK42 _ _ _ _ _ _ h)
def mX19_fromAbove_42 : Nat := 0x8000000000000000000000000000000000000000000000000000000000000000000000000000000000000000000000000000000000000000000000000000000000000000000000000000000000000000000000000000000000000000000000000000000000000000000000000000000000000000000000000000000000000000000000000000000000000000000000000000000000000000000000000000000000000000000000000000000
theorem wX19_fromAbove_42 {M : Nat} {z0 : St} {N : Nat} {K34 : Nat → Int32 → St → Option (Int32 × St)}(hM : mX19_fromAbove_42 &&& M = mX19_fromAbove_42)  (hK34 : ∀ a0 a1 a2, zFr M z0 a2 → zPw M z0 (K34 a0 a1 a2)) : ∀ (n : Nat) (y0 : Nat) (y1 : Int32) (y2 : Int32) (z : St), zFr M z0 z → zPw M z0 (fX19_fromAbove_42 N K34 n y0 y1 y2 z) := by
  intro n
  induction n with
  | zero => intro y0 y1 y2 z h; exact zw_n
  | succ n ih => intro y0 y1 y2 z h; exact wX19_fromAbove_42b (ztr rfl hM) hK34 (fun _ _ _ _ h => ih _ _ _ _ h) h
def mX19_fromAbove_34b : Nat := 0x8000000000000000000000000000000000000000000000000000000000000000000000000000000000000000000000000000000000000000000000000000000000000000000000000000000000000000000000000000000000000000000000000000000000000000000000000000000000000000000000000000000000000000000000000000000000000000000000000000000000000000000000000000000000000000000000000000000
theorem wX19_fromAbove_34b {M : Nat} {N : Nat} {K34 : Nat → Int32 → St → Option (Int32 × St)} {x0 : Nat} {x2 : Int32} {z0 z : St} (hM : mX19_fromAbove_34b &&& M = mX19_fromAbove_34b)  (hK34 : ∀ a0 a1 a2, zFr M z0 a2 → zPw M z0 (K34 a0 a1 a2)) (h : zFr M z0 z) : zPw M z0 (fX19_fromAbove_34b N K34 x0 x2 z) := by
  unfold fX19_fromAbove_34b
  exact zw_i (zw_s h) (wX19_fromAbove_42 (ztr rfl hM) hK34 _ _ _ _ _ h)
def mX19_fromAbove_34 : Nat := 0x8000000000000000000000000000000000000000000000000000000000000000000000000000000000000000000000000000000000000000000000000000000000000000000000000000000000000000000000000000000000000000000000000000000000000000000000000000000000000000000000000000000000000000000000000000000000000000000000000000000000000000000000000000000000000000000000000000000
theorem wX19_fromAbove_34 {M : Nat} {z0 : St} {N : Nat}(hM : mX19_fromAbove_34 &&& M = mX19_fromAbove_34)  : ∀ (n : Nat) (y0 : Nat) (y1 : Int32) (z : St), zFr M z0 z → zPw M z0 (fX19_fromAbove_34 N n y0 y1 z) := by
  intro n
  induction n with
  | zero => intro y0 y1 z h; exact zw_n
  | succ n ih => intro y0 y1 z h; exact wX19_fromAbove_34b (ztr rfl hM)  (fun _ _ _ h => ih _ _ _ h) h
def mX19_fromAbove_2b : Nat := 0x8000000000000000000000000000000000000000000000000000000000000000000000000000000000000000000000000000000000000000000000000000000000000000000000000000000000000000000000000000000000000000000000000000000000000000000000000000000000000000000000000000000000000000000000000000000000000000000000000000000000000000000000000000000000000000000000000000000
theorem wX19_fromAbove_2b {M : Nat} {N : Nat} {K2 : Nat → Int32 → Int32 → St → Option (Int32 × St)} {x0 : Nat} {x1 : Int32} {x2 : Int32} {z0 z : St} (hM : mX19_fromAbove_2b &&& M = mX19_fromAbove_2b)  (hK2 : ∀ a0 a1 a2 a3, zFr M z0 a3 → zPw M z0 (K2 a0 a1 a2 a3)) (h : zFr M z0 z) : zPw M z0 (fX19_fromAbove_2b N K2 x0 x1 x2 z) := by
  unfold fX19_fromAbove_2b
  exact zw_i (wX19_fromAbove_34 (ztr rfl hM)  _ _ _ _ h) (zw_i (wX19_fromAbove_25 (ztr rfl hM) hK2 h) (wX19_fromAbove_25 (ztr rfl hM) hK2 h))
def mX19_fromAbove_2 : Nat := 0x8000000000000000000000000000000000000000000000000000000000000000000000000000000000000000000000000000000000000000000000000000000000000000000000000000000000000000000000000000000000000000000000000000000000000000000000000000000000000000000000000000000000000000000000000000000000000000000000000000000000000000000000000000000000000000000000000000000
theorem wX19_fromAbove_2 {M : Nat} {z0 : St} {N : Nat}(hM : mX19_fromAbove_2 &&& M = mX19_fromAbove_2)  : ∀ (n : Nat) (y0 : Nat) (y1 : Int32) (y2 : Int32) (z : St), zFr M z0 z → zPw M z0 (fX19_fromAbove_2 N n y0 y1 y2 z) := by
  intro n
  induction n with
  | zero => intro y0 y1 y2 z h; exact zw_n
  | succ n ih => intro y0 y1 y2 z h; exact wX19_fromAbove_2b (ztr rfl hM)  (fun _ _ _ _ h => ih _ _ _ _ h) h
def mX19_fromAbove : Nat := 0x8000000000000000000000000000000000000000000000000000000000000000000000000000000000000000000000000000000000000000000000000000000000000000000000000000000000000000000000000000000000000000000000000000000000000000000000000000000000000000000000000000000000000000000000000000000000000000000000000000000000000000000000000000000000000000000000000000000
theorem wX19_fromAbove {M : Nat} {N : Nat} {x0 : Nat} {x1 : Int32} {z0 z : St} (hM : mX19_fromAbove &&& M = mX19_fromAbove)  (h : zFr M z0 z) : zPw M z0 (fX19_fromAbove N x0 x1 z) := by
  unfold fX19_fromAbove
  exact wX19_fromAbove_2 (ztr rfl hM)  _ _ _ _ _ h
def mX19_costAbove_120 : Nat := 0x0
theorem wX19_costAbove_120 {M : Nat} {N : Nat} {K38 : Nat → Int32 → Int32 → Int32 → St → Option (Int32 × St)} {x0 : Nat} {x2 : Int32} {x4 : Int32} {x5 : Int32} {z0 z : St} (hM : mX19_costAbove_120 &&& M = mX19_costAbove_120)  (hK38 : ∀ a0 a1 a2 a3 a4, zFr M z0 a4 → zPw M z0 (K38 a0 a1 a2 a3 a4)) (h : zFr M z0 z) : zPw M z0 (fX19_costAbove_120 N K38 x0 x2 x4 x5 z) := by
  unfold fX19_costAbove_120
  exact zw_l (fun v1 => hK38 _ _ _ _ _ h)
def mX19_costAbove_67 : Nat := 0x0
theorem wX19_costAbove_67 {M : Nat} {N : Nat} {K38 : Nat → Int32 → Int32 → Int32 → St → Option (Int32 × St)} {x0 : Nat} {x2 : Int32} {x4 : Int32} {x5 : Int32} {s0 : Option Nat} {z0 z : St} (hM : mX19_costAbove_67 &&& M = mX19_costAbove_67)  (hK38 : ∀ a0 a1 a2 a3 a4, zFr M z0 a4 → zPw M z0 (K38 a0 a1 a2 a3 a4)) (h : zFr M z0 z) : zPw M z0 (fX19_costAbove_67 N K38 x0 x2 x4 x5 s0 z) := by
  unfold fX19_costAbove_67
  exact zw_o (wX19_costAbove_120 (ztr rfl hM) hK38 h) (fun a2 => zw_k (zw_i (wX19_costAbove_120 (ztr rfl hM) hK38 h) (zw_k (zw_i (wX19_costAbove_120 (ztr rfl hM) hK38 h) (zw_k (zw_l (fun v8 => wX19_costAbove_120 (ztr rfl hM) hK38 h)))))))
def mX19_costAbove_38b : Nat := 0x0
theorem wX19_costAbove_38b {M : Nat} {N : Nat} {K38 : Nat → Int32 → Int32 → Int32 → St → Option (Int32 × St)} {x0 : Nat} {x2 : Int32} {x4 : Int32} {x5 : Int32} {z0 z : St} (hM : mX19_costAbove_38b &&& M = mX19_costAbove_38b)  (hK38 : ∀ a0 a1 a2 a3 a4, zFr M z0 a4 → zPw M z0 (K38 a0 a1 a2 a3 a4)) (h : zFr M z0 z) : zPw M z0 (fX19_costAbove_38b N K38 x0 x2 x4 x5 z) := by
  unfold fX19_costAbove_38b
  exact zw_i (zw_i (zw_s h) (zw_s h)) (zw_c (wX19_isRouter (ztr rfl hM)  h) (fun r3 z4 h1 => zw_i (wX19_costAbove_67 (ztr rfl hM) hK38 h1) (zw_c (wX19_portOn (ztr rfl hM)  h1) (fun r8 z9 h2 => wX19_costAbove_67 (ztr rfl hM) hK38 h2))))
def mX19_costAbove_38 : Nat := 0x0
theorem wX19_costAbove_38 {M : Nat} {z0 : St} {N : Nat}(hM : mX19_costAbove_38 &&& M = mX19_costAbove_38)  : ∀ (n : Nat) (y0 : Nat) (y1 : Int32) (y2 : Int32) (y3 : Int32) (z : St), zFr M z0 z → zPw M z0 (fX19_costAbove_38 N n y0 y1 y2 y3 z) := by
  intro n
  induction n with
  | zero => intro y0 y1 y2 y3 z h; exact zw_n
  | succ n ih => intro y0 y1 y2 y3 z h; exact wX19_costAbove_38b (ztr rfl hM)  (fun _ _ _ _ _ h => ih _ _ _ _ _ h) h
def mX19_costAbove : Nat := 0x0
theorem wX19_costAbove {M : Nat} {N : Nat} {x0 : Nat} {x1 : Int32} {x2 : Int32} {z0 z : St} (hM : mX19_costAbove &&& M = mX19_costAbove)  (h : zFr M z0 z) : zPw M z0 (fX19_costAbove N x0 x1 x2 z) := by
  unfold fX19_costAbove
  exact zw_k (zw_l (fun y2 => zw_d (fun a3 => zw_i (zw_c (wX19_portOn (ztr rfl hM)  h) (fun r5 z6 h1 => zw_o (wX19_costAbove_38 (ztr rfl hM)  _ _ _ _ _ _ h1) (fun a10 => zw_s h1))) (zw_s h))))
def mX19_shouldCost_22 : Nat := 0x8000000000000000000000000000000020000000000000000000000000000000000000000000000000000000000000000000000000000000000000000000000000000000000000000000000000000000000000000000000000000000000000000000000000000000000000000000000000000000000000000000000000000000000000000000000000000000000000000000000000000000000000000000000000000000000000000000000
theorem wX19_shouldCost_22 {M : Nat} {N : Nat} {x0 : Nat} {x1 : Int32} {x2 : Int32} {s0 : Nat} {s1 : Int32} {z0 z : St} (hM : mX19_shouldCost_22 &&& M = mX19_shouldCost_22)  (h : zFr M z0 z) : zPw M z0 (fX19_shouldCost_22 N x0 x1 x2 s0 s1 z) := by
  unfold fX19_shouldCost_22
  exact zw_c (wX19_fails (ztr rfl hM)  h) (fun r1 z2 h1 => zw_i (zw_c (wX19_fromAbove (ztr rfl hM)  h1) (fun _ z7 h2 => zw_c (wX19_costAbove (ztr rfl hM)  h2) (fun r10 z11 h3 => zw_s h3))) (zw_s h1))
def mX19_shouldCost_17 : Nat := 0x8000000000000000000000000000000020000000000000000000000000000000000000000000000000000000000000000000000000000000000000000000000000000000000000000000000000000000000000000000000000000000000000000000000000000000000000000000000000000000000000000000000000000000000000000000000000000000000000000000000000000000000000000000000000000000000000000000000
theorem wX19_shouldCost_17 {M : Nat} {N : Nat} {x0 : Nat} {x1 : Int32} {x2 : Int32} {s0 : Nat} {z0 z : St} (hM : mX19_shouldCost_17 &&& M = mX19_shouldCost_17)  (h : zFr M z0 z) : zPw M z0 (fX19_shouldCost_17 N x0 x1 x2 s0 z) := by
  unfold fX19_shouldCost_17
  exact wX19_shouldCost_22 (ztr rfl hM)  h
def mX19_shouldCost : Nat := 0x8000000000000000000000000000000020000000000000000000000000000000000000000000000000000000000000000000000000000000000000000000000000000000000000000000000000000000000000000000000000000000000000000000000000000000000000000000000000000000000000000000000000000000000000000000000000000000000000000000000000000000000000000000000000000000000000000000000
theorem wX19_shouldCost {M : Nat} {N : Nat} {x0 : Nat} {x1 : Int32} {x2 : Int32} {z0 z : St} (hM : mX19_shouldCost &&& M = mX19_shouldCost)  (h : zFr M z0 z) : zPw M z0 (fX19_shouldCost N x0 x1 x2 z) := by
  unfold fX19_shouldCost
  exact zw_c (wX19_isRouter (ztr rfl hM)  h) (fun r1 z2 h1 => zw_i (wX19_shouldCost_17 (ztr rfl hM)  h1) (zw_c (wX19_isNet (ztr rfl hM)  h1) (fun r6 z7 h2 => zw_i (wX19_shouldCost_22 (ztr rfl hM)  h2) (wX19_shouldCost_17 (ztr rfl hM)  h2))))
def mX19_boundNow_38 : Nat := 0x0
theorem wX19_boundNow_38 {M : Nat} {N : Nat} {K4 : Nat → Int32 → Int32 → St → Option (Int32 × St)} {x0 : Nat} {x2 : Int32} {s0 : Int32} {z0 z : St} (hM : mX19_boundNow_38 &&& M = mX19_boundNow_38)  (hK4 : ∀ a0 a1 a2 a3, zFr M z0 a3 → zPw M z0 (K4 a0 a1 a2 a3)) (h : zFr M z0 z) : zPw M z0 (fX19_boundNow_38 N K4 x0 x2 s0 z) := by
  unfold fX19_boundNow_38
  exact zw_l (fun v1 => hK4 _ _ _ _ h)
def mX19_boundNow_4b : Nat := 0x0
theorem wX19_boundNow_4b {M : Nat} {N : Nat} {K4 : Nat → Int32 → Int32 → St → Option (Int32 × St)} {x0 : Nat} {x1 : Int32} {x2 : Int32} {z0 z : St} (hM : mX19_boundNow_4b &&& M = mX19_boundNow_4b)  (hK4 : ∀ a0 a1 a2 a3, zFr M z0 a3 → zPw M z0 (K4 a0 a1 a2 a3)) (h : zFr M z0 z) : zPw M z0 (fX19_boundNow_4b N K4 x0 x1 x2 z) := by
  unfold fX19_boundNow_4b
  exact zw_i (zw_s h) (zw_k (zw_l (fun y3 => zw_d (fun a4 => zw_i (wX19_boundNow_38 (ztr rfl hM) hK4 h) (zw_k (zw_l (fun y7 => zw_d (fun a8 => wX19_boundNow_38 (ztr rfl hM) hK4 h))))))))
def mX19_boundNow_4 : Nat := 0x0
theorem wX19_boundNow_4 {M : Nat} {z0 : St} {N : Nat}(hM : mX19_boundNow_4 &&& M = mX19_boundNow_4)  : ∀ (n : Nat) (y0 : Nat) (y1 : Int32) (y2 : Int32) (z : St), zFr M z0 z → zPw M z0 (fX19_boundNow_4 N n y0 y1 y2 z) := by
  intro n
  induction n with
  | zero => intro y0 y1 y2 z h; exact zw_n
  | succ n ih => intro y0 y1 y2 z h; exact wX19_boundNow_4b (ztr rfl hM)  (fun _ _ _ _ h => ih _ _ _ _ h) h
def mX19_boundNow : Nat := 0x0
theorem wX19_boundNow {M : Nat} {N : Nat} {x0 : Nat} {z0 z : St} (hM : mX19_boundNow &&& M = mX19_boundNow)  (h : zFr M z0 z) : zPw M z0 (fX19_boundNow N x0 z) := by
  unfold fX19_boundNow
  exact wX19_boundNow_4 (ztr rfl hM)  _ _ _ _ _ h
def mX19_bound : Nat := 0x20000000000000000000000000000000000000000000000000000000000000000000000000000000000000000000000000000000000000000000000000000000000000000000000000000000000000000000000000000000000000000000000000000000000000000000000000000000000000000000000000000000000000000000000000000000000000000000000000000000000000000000000
theorem wX19_bound {M : Nat} {N : Nat} {x0 : Nat} {z0 z : St} (hM : mX19_bound &&& M = mX19_bound)  (h : zFr M z0 z) : zPw M z0 (fX19_bound N x0 z) := by
  unfold fX19_bound
  exact zw_lI h (ztb hM rfl) (fun z1 h1 => zw_c (wX19_boundNow (ztr rfl hM)  h1) (fun r2 z3 h2 => zw_s h2))
def mX19_drain_29 : Nat := 0x20000000000000000000000000000000000000000000000000000000000000000000000000000000000000000000000000001000000000000000000000000000000000000000000000000000000000000000000000000000000000000000000000000000000000000000000000000000000000000000000000000000000000000000000000000000000000000000000000000000000000000000000
theorem wX19_drain_29 {M : Nat} {N : Nat} {x0 : Nat} {x1 : Int32} {x2 : Int32} {x3 : Int32} {s0 : Nat} {s1 : Int32} {s2 : Int32} {z0 z : St} (hM : mX19_drain_29 &&& M = mX19_drain_29)  (h : zFr M z0 z) : zPw M z0 (fX19_drain_29 N x0 x1 x2 x3 s0 s1 s2 z) := by
  unfold fX19_drain_29
  exact zw_c (wX19_fails (ztr rfl hM)  h) (fun r1 z2 h1 => zw_i (zw_s h1) (zw_k (zw_l (fun y7 => zw_d (fun a8 => zw_k (zw_l (fun y10 => zw_d (fun a11 => zw_q (zw_lI h1 (ztb hM rfl) (fun z12 h2 => zw_s h2))))))))))
def mX19_drain_15 : Nat := 0x20000000000000000000000000000000000000000000000000000000000000000000000000000000000000000000000000001000000000000000000000000000000000000000000000000000000000000000000000000000000000000000000000000000000000000000000000000000000000000000000000000000000000000000000000000000000000000000000000000000000000000000000
theorem wX19_drain_15 {M : Nat} {N : Nat} {x0 : Nat} {x1 : Int32} {x2 : Int32} {x3 : Int32} {s0 : Nat} {s1 : Int32} {z0 z : St} (hM : mX19_drain_15 &&& M = mX19_drain_15)  (h : zFr M z0 z) : zPw M z0 (fX19_drain_15 N x0 x1 x2 x3 s0 s1 z) := by
  unfold fX19_drain_15
  exact zw_c (wX19_endAt (ztr rfl hM)  h) (fun r1 z2 h1 => zw_o (wX19_drain_29 (ztr rfl hM)  h1) (fun a6 => wX19_drain_29 (ztr rfl hM)  h1))
def mX19_drain : Nat := 0x20000000000000000000000000000000000000000000000000000000000000000000000000000000000000000000000000001000000000000000000000000000000000000000000000000000000000000000000000000000000000000000000000000000000000000000000000000000000000000000000000000000000000000000000000000000000000000000000000000000000000000000000
theorem wX19_drain {M : Nat} {N : Nat} {x0 : Nat} {x1 : Int32} {x2 : Int32} {x3 : Int32} {z0 z : St} (hM : mX19_drain &&& M = mX19_drain)  (h : zFr M z0 z) : zPw M z0 (fX19_drain N x0 x1 x2 x3 z) := by
  unfold fX19_drain
  exact zw_c (wX19_isDoor (ztr rfl hM)  h) (fun r1 z2 h1 => zw_i (wX19_drain_15 (ztr rfl hM)  h1) (wX19_drain_15 (ztr rfl hM)  h1))
def mX19_drained_15 : Nat := 0x20000000000000000000000000000000000000000000000000000000000000000000000000000000000000000000000000000000000000000000000000000000000000000000000000000000000000000000000000000000000000000000000000000000000000000000000000000000000000000000000000000000000000000000000000000000000000000000000000000000000000000000000
theorem wX19_drained_15 {M : Nat} {N : Nat} {x0 : Nat} {x1 : Int32} {x2 : Int32} {s0 : Nat} {s1 : Int32} {z0 z : St} (hM : mX19_drained_15 &&& M = mX19_drained_15)  (h : zFr M z0 z) : zPw M z0 (fX19_drained_15 N x0 x1 x2 s0 s1 z) := by
  unfold fX19_drained_15
  exact zw_c (wX19_fails (ztr rfl hM)  h) (fun r1 z2 h1 => zw_i (zw_k (zw_l (fun y7 => zw_d (fun a8 => zw_k (zw_l (fun y10 => zw_d (fun a11 => zw_s h1))))))) (zw_s h1))
def mX19_drained : Nat := 0x20000000000000000000000000000000000000000000000000000000000000000000000000000000000000000000000000000000000000000000000000000000000000000000000000000000000000000000000000000000000000000000000000000000000000000000000000000000000000000000000000000000000000000000000000000000000000000000000000000000000000000000000
theorem wX19_drained {M : Nat} {N : Nat} {x0 : Nat} {x1 : Int32} {x2 : Int32} {z0 z : St} (hM : mX19_drained &&& M = mX19_drained)  (h : zFr M z0 z) : zPw M z0 (fX19_drained N x0 x1 x2 z) := by
  unfold fX19_drained
  exact zw_c (wX19_isDoor (ztr rfl hM)  h) (fun r1 z2 h1 => zw_i (wX19_drained_15 (ztr rfl hM)  h1) (wX19_drained_15 (ztr rfl hM)  h1))
def mX19_strays : Nat := 0x20000000000000000000000000000000000000000000000000000000000000000000000000000000000000000000000000000000000000000000000000000000000000000000000000000000000000000000000000000000000000000000000000000000000000000000000000000000000000000000000000000000000000000000000000000000000000000000000000000000000000000000000
theorem wX19_strays {M : Nat} {N : Nat} {x0 : Nat} {z0 z : St} (hM : mX19_strays &&& M = mX19_strays)  (h : zFr M z0 z) : zPw M z0 (fX19_strays N x0 z) := by
  unfold fX19_strays
  exact zw_lI h (ztb hM rfl) (fun z1 h1 => zw_s h1)
def mX19_areJoined_49 : Nat := 0x10000000000000000000000000000000000000000000000000000000000000000000000000000000000000000000000000000000000000000000000000000000000000000000000000000000000000000000000000000000000000000000000000000000000000000000000000000000000000000000000000000000000000000000000000000000000000000000000000000000000000000000000000000000000000000000000000000000
theorem wX19_areJoined_49 {M : Nat} {N : Nat} {K28 : Nat → Int32 → Int32 → Int32 → St → Option (Int32 × St)} {x0 : Nat} {x1 : Int32} {x2 : Int32} {x3 : Int32} {s0 : Nat} {s1 : Int32} {s2 : Int32} {z0 z : St} (hM : mX19_areJoined_49 &&& M = mX19_areJoined_49)  (hK28 : ∀ a0 a1 a2 a3 a4, zFr M z0 a4 → zPw M z0 (K28 a0 a1 a2 a3 a4)) (h : zFr M z0 z) : zPw M z0 (fX19_areJoined_49 N K28 x0 x1 x2 x3 s0 s1 s2 z) := by
  unfold fX19_areJoined_49
  exact zw_k (zw_lA h (ztb hM rfl) (fun z2 h1 => zw_l (fun v3 => hK28 _ _ _ _ _ h1)))
def mX19_areJoined_143 : Nat := 0x0
theorem wX19_areJoined_143 {M : Nat} {N : Nat} {K58 : Nat → Int32 → Int32 → St → Option (Int32 × St)} {K67 : Nat → Int32 → Int32 → Int32 → St → Option (Int32 × St)} {K82 : Nat → Int32 → Int32 → Int32 → Int32 → Int32 → St → Option (Int32 × St)} {x0 : Nat} {x2 : Int32} {x3 : Int32} {x4 : Int32} {x6 : Int32} {s0 : Int32} {z0 z : St} (hM : mX19_areJoined_143 &&& M = mX19_areJoined_143)  (hK58 : ∀ a0 a1 a2 a3, zFr M z0 a3 → zPw M z0 (K58 a0 a1 a2 a3)) (hK67 : ∀ a0 a1 a2 a3 a4, zFr M z0 a4 → zPw M z0 (K67 a0 a1 a2 a3 a4)) (hK82 : ∀ a0 a1 a2 a3 a4 a5 a6, zFr M z0 a6 → zPw M z0 (K82 a0 a1 a2 a3 a4 a5 a6)) (h : zFr M z0 z) : zPw M z0 (fX19_areJoined_143 N K58 K67 K82 x0 x2 x3 x4 x6 s0 z) := by
  unfold fX19_areJoined_143
  exact zw_l (fun v1 => hK82 _ _ _ _ _ _ _ h)
def mX19_areJoined_138 : Nat := 0x0
theorem wX19_areJoined_138 {M : Nat} {N : Nat} {K58 : Nat → Int32 → Int32 → St → Option (Int32 × St)} {K67 : Nat → Int32 → Int32 → Int32 → St → Option (Int32 × St)} {K82 : Nat → Int32 → Int32 → Int32 → Int32 → Int32 → St → Option (Int32 × St)} {x0 : Nat} {x2 : Int32} {x3 : Int32} {x4 : Int32} {x6 : Int32} {z0 z : St} (hM : mX19_areJoined_138 &&& M = mX19_areJoined_138)  (hK58 : ∀ a0 a1 a2 a3, zFr M z0 a3 → zPw M z0 (K58 a0 a1 a2 a3)) (hK67 : ∀ a0 a1 a2 a3 a4, zFr M z0 a4 → zPw M z0 (K67 a0 a1 a2 a3 a4)) (hK82 : ∀ a0 a1 a2 a3 a4 a5 a6, zFr M z0 a6 → zPw M z0 (K82 a0 a1 a2 a3 a4 a5 a6)) (h : zFr M z0 z) : zPw M z0 (fX19_areJoined_138 N K58 K67 K82 x0 x2 x3 x4 x6 z) := by
  unfold fX19_areJoined_138
  exact wX19_areJoined_143 (ztr rfl hM) hK58 hK67 hK82 h
def mX19_areJoined_226 : Nat := 0x0
theorem wX19_areJoined_226 {M : Nat} {N : Nat} {K58 : Nat → Int32 → Int32 → St → Option (Int32 × St)} {K67 : Nat → Int32 → Int32 → Int32 → St → Option (Int32 × St)} {K154 : Nat → Int32 → Int32 → Int32 → Int32 → Int32 → St → Option (Int32 × St)} {x0 : Nat} {x2 : Int32} {x3 : Int32} {x4 : Int32} {x5 : Int32} {x6 : Int32} {z0 z : St} (hM : mX19_areJoined_226 &&& M = mX19_areJoined_226)  (hK58 : ∀ a0 a1 a2 a3, zFr M z0 a3 → zPw M z0 (K58 a0 a1 a2 a3)) (hK67 : ∀ a0 a1 a2 a3 a4, zFr M z0 a4 → zPw M z0 (K67 a0 a1 a2 a3 a4)) (hK154 : ∀ a0 a1 a2 a3 a4 a5 a6, zFr M z0 a6 → zPw M z0 (K154 a0 a1 a2 a3 a4 a5 a6)) (h : zFr M z0 z) : zPw M z0 (fX19_areJoined_226 N K58 K67 K154 x0 x2 x3 x4 x5 x6 z) := by
  unfold fX19_areJoined_226
  exact zw_l (fun v1 => hK154 _ _ _ _ _ _ _ h)
def mX19_areJoined_232 : Nat := 0x0
theorem wX19_areJoined_232 {M : Nat} {N : Nat} {K58 : Nat → Int32 → Int32 → St → Option (Int32 × St)} {K67 : Nat → Int32 → Int32 → Int32 → St → Option (Int32 × St)} {x0 : Nat} {x2 : Int32} {x3 : Int32} {x4 : Int32} {z0 z : St} (hM : mX19_areJoined_232 &&& M = mX19_areJoined_232)  (hK58 : ∀ a0 a1 a2 a3, zFr M z0 a3 → zPw M z0 (K58 a0 a1 a2 a3)) (hK67 : ∀ a0 a1 a2 a3 a4, zFr M z0 a4 → zPw M z0 (K67 a0 a1 a2 a3 a4)) (h : zFr M z0 z) : zPw M z0 (fX19_areJoined_232 N K58 K67 x0 x2 x3 x4 z) := by
  unfold fX19_areJoined_232
  exact zw_l (fun v1 => hK67 _ _ _ _ _ h)
def mX19_areJoined_154b : Nat := 0x10000000000000000000000000000000000000000000000000000000000000000000000000000000000000000000000000000000000000000000000000000000000000000000000000000000000000000000000000000000000000000000000000000000000000000000000000000000000000000000000000000000000000000000000000000000000000000000000000000000000000000000000000000000000000000000000000000000
theorem wX19_areJoined_154b {M : Nat} {N : Nat} {K58 : Nat → Int32 → Int32 → St → Option (Int32 × St)} {K67 : Nat → Int32 → Int32 → Int32 → St → Option (Int32 × St)} {K154 : Nat → Int32 → Int32 → Int32 → Int32 → Int32 → St → Option (Int32 × St)} {x0 : Nat} {x2 : Int32} {x3 : Int32} {x4 : Int32} {x5 : Int32} {x6 : Int32} {z0 z : St} (hM : mX19_areJoined_154b &&& M = mX19_areJoined_154b)  (hK58 : ∀ a0 a1 a2 a3, zFr M z0 a3 → zPw M z0 (K58 a0 a1 a2 a3)) (hK67 : ∀ a0 a1 a2 a3 a4, zFr M z0 a4 → zPw M z0 (K67 a0 a1 a2 a3 a4)) (hK154 : ∀ a0 a1 a2 a3 a4 a5 a6, zFr M z0 a6 → zPw M z0 (K154 a0 a1 a2 a3 a4 a5 a6)) (h : zFr M z0 z) : zPw M z0 (fX19_areJoined_154b N K58 K67 K154 x0 x2 x3 x4 x5 x6 z) := by
  unfold fX19_areJoined_154b
  exact zw_i (wX19_areJoined_232 (ztr rfl hM) hK58 hK67 h) (zw_k (zw_l (fun y3 => zw_d (fun a4 => zw_i (wX19_areJoined_232 (ztr rfl hM) hK58 hK67 h) (zw_k (zw_l (fun y7 => zw_d (fun a8 => zw_k (zw_l (fun y10 => zw_d (fun a11 => zw_l (fun y12 => zw_d (fun a13 => zw_i (wX19_areJoined_226 (ztr rfl hM) hK58 hK67 hK154 h) (zw_k (zw_i (wX19_areJoined_226 (ztr rfl hM) hK58 hK67 hK154 h) (zw_k (zw_lA h (ztb hM rfl) (fun z18 h1 => wX19_areJoined_226 (ztr rfl hM) hK58 hK67 hK154 h1))))))))))))))))))
def mX19_areJoined_154 : Nat := 0x10000000000000000000000000000000000000000000000000000000000000000000000000000000000000000000000000000000000000000000000000000000000000000000000000000000000000000000000000000000000000000000000000000000000000000000000000000000000000000000000000000000000000000000000000000000000000000000000000000000000000000000000000000000000000000000000000000000
theorem wX19_areJoined_154 {M : Nat} {z0 : St} {N : Nat} {K58 : Nat → Int32 → Int32 → St → Option (Int32 × St)} {K67 : Nat → Int32 → Int32 → Int32 → St → Option (Int32 × St)}(hM : mX19_areJoined_154 &&& M = mX19_areJoined_154)  (hK58 : ∀ a0 a1 a2 a3, zFr M z0 a3 → zPw M z0 (K58 a0 a1 a2 a3)) (hK67 : ∀ a0 a1 a2 a3 a4, zFr M z0 a4 → zPw M z0 (K67 a0 a1 a2 a3 a4)) : ∀ (n : Nat) (y0 : Nat) (y1 : Int32) (y2 : Int32) (y3 : Int32) (y4 : Int32) (y5 : Int32) (z : St), zFr M z0 z → zPw M z0 (fX19_areJoined_154 N K58 K67 n y0 y1 y2 y3 y4 y5 z) := by
  intro n
  induction n with
  | zero => intro y0 y1 y2 y3 y4 y5 z h; exact zw_n
  | succ n ih => intro y0 y1 y2 y3 y4 y5 z h; exact wX19_areJoined_154b (ztr rfl hM) hK58 hK67 (fun _ _ _ _ _ _ _ h => ih _ _ _ _ _ _ _ h) h
def mX19_areJoined_151 : Nat := 0x10000000000000000000000000000000000000000000000000000000000000000000000000000000000000000000000000000000000000000000000000000000000000000000000000000000000000000000000000000000000000000000000000000000000000000000000000000000000000000000000000000000000000000000000000000000000000000000000000000000000000000000000000000000000000000000000000000000
theorem wX19_areJoined_151 {M : Nat} {N : Nat} {K58 : Nat → Int32 → Int32 → St → Option (Int32 × St)} {K67 : Nat → Int32 → Int32 → Int32 → St → Option (Int32 × St)} {x0 : Nat} {x2 : Int32} {x3 : Int32} {x4 : Int32} {x5 : Int32} {z0 z : St} (hM : mX19_areJoined_151 &&& M = mX19_areJoined_151)  (hK58 : ∀ a0 a1 a2 a3, zFr M z0 a3 → zPw M z0 (K58 a0 a1 a2 a3)) (hK67 : ∀ a0 a1 a2 a3 a4, zFr M z0 a4 → zPw M z0 (K67 a0 a1 a2 a3 a4)) (h : zFr M z0 z) : zPw M z0 (fX19_areJoined_151 N K58 K67 x0 x2 x3 x4 x5 z) := by
  unfold fX19_areJoined_151
  exact wX19_areJoined_154 (ztr rfl hM) hK58 hK67 _ _ _ _ _ _ _ _ h
def mX19_areJoined_82b : Nat := 0x10000000000000000000000000000000000000000000000000000000000000000000000000000000000000000000000000000000000000000000000000000000000000000000000000000000000000000000000000000000000000000000000000000000000000000000000000000000000000000000000000000000000000000000000000000000000000000000000000000000000000000000000000000000000000000000000000000000
theorem wX19_areJoined_82b {M : Nat} {N : Nat} {K58 : Nat → Int32 → Int32 → St → Option (Int32 × St)} {K67 : Nat → Int32 → Int32 → Int32 → St → Option (Int32 × St)} {K82 : Nat → Int32 → Int32 → Int32 → Int32 → Int32 → St → Option (Int32 × St)} {x0 : Nat} {x2 : Int32} {x3 : Int32} {x4 : Int32} {x5 : Int32} {x6 : Int32} {z0 z : St} (hM : mX19_areJoined_82b &&& M = mX19_areJoined_82b)  (hK58 : ∀ a0 a1 a2 a3, zFr M z0 a3 → zPw M z0 (K58 a0 a1 a2 a3)) (hK67 : ∀ a0 a1 a2 a3 a4, zFr M z0 a4 → zPw M z0 (K67 a0 a1 a2 a3 a4)) (hK82 : ∀ a0 a1 a2 a3 a4 a5 a6, zFr M z0 a6 → zPw M z0 (K82 a0 a1 a2 a3 a4 a5 a6)) (h : zFr M z0 z) : zPw M z0 (fX19_areJoined_82b N K58 K67 K82 x0 x2 x3 x4 x5 x6 z) := by
  unfold fX19_areJoined_82b
  exact zw_c (wX19_isRouter (ztr rfl hM)  h) (fun r1 z2 h1 => zw_i (wX19_areJoined_151 (ztr rfl hM) hK58 hK67 h1) (zw_k (zw_l (fun y7 => zw_d (fun a8 => zw_i (wX19_areJoined_151 (ztr rfl hM) hK58 hK67 h1) (zw_i (wX19_areJoined_138 (ztr rfl hM) hK58 hK67 hK82 h1) (zw_k (zw_l (fun y12 => zw_d (fun a13 => zw_k (zw_l (fun y15 => zw_d (fun a16 => zw_l (fun y17 => zw_d (fun a18 => zw_k (zw_i (wX19_areJoined_143 (ztr rfl hM) hK58 hK67 hK82 h1) (wX19_areJoined_138 (ztr rfl hM) hK58 hK67 hK82 h1)))))))))))))))))
def mX19_areJoined_82 : Nat := 0x10000000000000000000000000000000000000000000000000000000000000000000000000000000000000000000000000000000000000000000000000000000000000000000000000000000000000000000000000000000000000000000000000000000000000000000000000000000000000000000000000000000000000000000000000000000000000000000000000000000000000000000000000000000000000000000000000000000
theorem wX19_areJoined_82 {M : Nat} {z0 : St} {N : Nat} {K58 : Nat → Int32 → Int32 → St → Option (Int32 × St)} {K67 : Nat → Int32 → Int32 → Int32 → St → Option (Int32 × St)}(hM : mX19_areJoined_82 &&& M = mX19_areJoined_82)  (hK58 : ∀ a0 a1 a2 a3, zFr M z0 a3 → zPw M z0 (K58 a0 a1 a2 a3)) (hK67 : ∀ a0 a1 a2 a3 a4, zFr M z0 a4 → zPw M z0 (K67 a0 a1 a2 a3 a4)) : ∀ (n : Nat) (y0 : Nat) (y1 : Int32) (y2 : Int32) (y3 : Int32) (y4 : Int32) (y5 : Int32) (z : St), zFr M z0 z → zPw M z0 (fX19_areJoined_82 N K58 K67 n y0 y1 y2 y3 y4 y5 z) := by
  intro n
  induction n with
  | zero => intro y0 y1 y2 y3 y4 y5 z h; exact zw_n
  | succ n ih => intro y0 y1 y2 y3 y4 y5 z h; exact wX19_areJoined_82b (ztr rfl hM) hK58 hK67 (fun _ _ _ _ _ _ _ h => ih _ _ _ _ _ _ _ h) h
def mX19_areJoined_67b : Nat := 0x10000000000000000000000000000000000000000000000000000000000000000000000000000000000000000000000000000000000000000000000000000000000000000000000000000000000000000000000000000000000000000000000000000000000000000000000000000000000000000000000000000000000000000000000000000000000000000000000000000000000000000000000000000000000000000000000000000000
theorem wX19_areJoined_67b {M : Nat} {N : Nat} {K58 : Nat → Int32 → Int32 → St → Option (Int32 × St)} {K67 : Nat → Int32 → Int32 → Int32 → St → Option (Int32 × St)} {x0 : Nat} {x2 : Int32} {x3 : Int32} {x4 : Int32} {z0 z : St} (hM : mX19_areJoined_67b &&& M = mX19_areJoined_67b)  (hK58 : ∀ a0 a1 a2 a3, zFr M z0 a3 → zPw M z0 (K58 a0 a1 a2 a3)) (hK67 : ∀ a0 a1 a2 a3 a4, zFr M z0 a4 → zPw M z0 (K67 a0 a1 a2 a3 a4)) (h : zFr M z0 z) : zPw M z0 (fX19_areJoined_67b N K58 K67 x0 x2 x3 x4 z) := by
  unfold fX19_areJoined_67b
  exact zw_i (hK58 _ _ _ _ h) (wX19_areJoined_82 (ztr rfl hM) hK58 hK67 _ _ _ _ _ _ _ _ h)
def mX19_areJoined_67 : Nat := 0x10000000000000000000000000000000000000000000000000000000000000000000000000000000000000000000000000000000000000000000000000000000000000000000000000000000000000000000000000000000000000000000000000000000000000000000000000000000000000000000000000000000000000000000000000000000000000000000000000000000000000000000000000000000000000000000000000000000
theorem wX19_areJoined_67 {M : Nat} {z0 : St} {N : Nat} {K58 : Nat → Int32 → Int32 → St → Option (Int32 × St)}(hM : mX19_areJoined_67 &&& M = mX19_areJoined_67)  (hK58 : ∀ a0 a1 a2 a3, zFr M z0 a3 → zPw M z0 (K58 a0 a1 a2 a3)) : ∀ (n : Nat) (y0 : Nat) (y1 : Int32) (y2 : Int32) (y3 : Int32) (z : St), zFr M z0 z → zPw M z0 (fX19_areJoined_67 N K58 n y0 y1 y2 y3 z) := by
  intro n
  induction n with
  | zero => intro y0 y1 y2 y3 z h; exact zw_n
  | succ n ih => intro y0 y1 y2 y3 z h; exact wX19_areJoined_67b (ztr rfl hM) hK58 (fun _ _ _ _ _ h => ih _ _ _ _ _ h) h
def mX19_areJoined_58b : Nat := 0x10000000000000000000000000000000000000000000000000000000000000000000000000000000000000000000000000000000000000000000000000000000000000000000000000000000000000000000000000000000000000000000000000000000000000000000000000000000000000000000000000000000000000000000000000000000000000000000000000000000000000000000000000000000000000000000000000000000
theorem wX19_areJoined_58b {M : Nat} {N : Nat} {K58 : Nat → Int32 → Int32 → St → Option (Int32 × St)} {x0 : Nat} {x2 : Int32} {x3 : Int32} {z0 z : St} (hM : mX19_areJoined_58b &&& M = mX19_areJoined_58b)  (hK58 : ∀ a0 a1 a2 a3, zFr M z0 a3 → zPw M z0 (K58 a0 a1 a2 a3)) (h : zFr M z0 z) : zPw M z0 (fX19_areJoined_58b N K58 x0 x2 x3 z) := by
  unfold fX19_areJoined_58b
  exact zw_i (zw_k (zw_q (zw_s h))) (wX19_areJoined_67 (ztr rfl hM) hK58 _ _ _ _ _ _ h)
def mX19_areJoined_58 : Nat := 0x10000000000000000000000000000000000000000000000000000000000000000000000000000000000000000000000000000000000000000000000000000000000000000000000000000000000000000000000000000000000000000000000000000000000000000000000000000000000000000000000000000000000000000000000000000000000000000000000000000000000000000000000000000000000000000000000000000000
theorem wX19_areJoined_58 {M : Nat} {z0 : St} {N : Nat}(hM : mX19_areJoined_58 &&& M = mX19_areJoined_58)  : ∀ (n : Nat) (y0 : Nat) (y1 : Int32) (y2 : Int32) (z : St), zFr M z0 z → zPw M z0 (fX19_areJoined_58 N n y0 y1 y2 z) := by
  intro n
  induction n with
  | zero => intro y0 y1 y2 z h; exact zw_n
  | succ n ih => intro y0 y1 y2 z h; exact wX19_areJoined_58b (ztr rfl hM)  (fun _ _ _ _ h => ih _ _ _ _ h) h
def mX19_areJoined_28b : Nat := 0x10000000000000000000000000000000000000000000000000000000000000000000000000000000000000000000000000000000000000000000000000000000000000000000000000000000000000000000000000000000000000000000000000000000000000000000000000000000000000000000000000000000000000000000000000000000000000000000000000000000000000000000000000000000000000000000000000000000
theorem wX19_areJoined_28b {M : Nat} {N : Nat} {K28 : Nat → Int32 → Int32 → Int32 → St → Option (Int32 × St)} {x0 : Nat} {x1 : Int32} {x2 : Int32} {x3 : Int32} {z0 z : St} (hM : mX19_areJoined_28b &&& M = mX19_areJoined_28b)  (hK28 : ∀ a0 a1 a2 a3 a4, zFr M z0 a4 → zPw M z0 (K28 a0 a1 a2 a3 a4)) (h : zFr M z0 z) : zPw M z0 (fX19_areJoined_28b N K28 x0 x1 x2 x3 z) := by
  unfold fX19_areJoined_28b
  exact zw_i (wX19_areJoined_58 (ztr rfl hM)  _ _ _ _ _ h) (zw_i (wX19_areJoined_49 (ztr rfl hM) hK28 h) (wX19_areJoined_49 (ztr rfl hM) hK28 h))
def mX19_areJoined_28 : Nat := 0x10000000000000000000000000000000000000000000000000000000000000000000000000000000000000000000000000000000000000000000000000000000000000000000000000000000000000000000000000000000000000000000000000000000000000000000000000000000000000000000000000000000000000000000000000000000000000000000000000000000000000000000000000000000000000000000000000000000
theorem wX19_areJoined_28 {M : Nat} {z0 : St} {N : Nat}(hM : mX19_areJoined_28 &&& M = mX19_areJoined_28)  : ∀ (n : Nat) (y0 : Nat) (y1 : Int32) (y2 : Int32) (y3 : Int32) (z : St), zFr M z0 z → zPw M z0 (fX19_areJoined_28 N n y0 y1 y2 y3 z) := by
  intro n
  induction n with
  | zero => intro y0 y1 y2 y3 z h; exact zw_n
  | succ n ih => intro y0 y1 y2 y3 z h; exact wX19_areJoined_28b (ztr rfl hM)  (fun _ _ _ _ _ h => ih _ _ _ _ _ h) h
def mX19_areJoined : Nat := 0x10000000000000000000000000000000000000000000000000000000000000000000000000000000000000000000000000000000000000000000000000000000000000000000000000000000000000000000000000000000000000000000000000000000000000000000000000000000000000000000000000000000000000000000000000000000000000000000000000000000000000000000000000000000000000000000000000000000
theorem wX19_areJoined {M : Nat} {N : Nat} {x0 : Nat} {x1 : Int32} {x2 : Int32} {z0 z : St} (hM : mX19_areJoined &&& M = mX19_areJoined)  (h : zFr M z0 z) : zPw M z0 (fX19_areJoined N x0 x1 x2 z) := by
  unfold fX19_areJoined
  exact zw_k (zw_l (fun y2 => zw_d (fun a3 => zw_i (zw_s h) (zw_k (zw_l (fun y6 => zw_d (fun a7 => zw_i (wX19_areJoined_28 (ztr rfl hM)  _ _ _ _ _ _ h) (zw_s h))))))))
def mX19_netOfHost_54 : Nat := 0x0
theorem wX19_netOfHost_54 {M : Nat} {N : Nat} {K2 : Nat → Int32 → Int32 → St → Option (Int32 × St)} {x0 : Nat} {x1 : Int32} {x2 : Int32} {z0 z : St} (hM : mX19_netOfHost_54 &&& M = mX19_netOfHost_54)  (hK2 : ∀ a0 a1 a2 a3, zFr M z0 a3 → zPw M z0 (K2 a0 a1 a2 a3)) (h : zFr M z0 z) : zPw M z0 (fX19_netOfHost_54 N K2 x0 x1 x2 z) := by
  unfold fX19_netOfHost_54
  exact zw_l (fun v1 => hK2 _ _ _ _ h)
def mX19_netOfHost_2b : Nat := 0x0
theorem wX19_netOfHost_2b {M : Nat} {N : Nat} {K2 : Nat → Int32 → Int32 → St → Option (Int32 × St)} {x0 : Nat} {x1 : Int32} {x2 : Int32} {z0 z : St} (hM : mX19_netOfHost_2b &&& M = mX19_netOfHost_2b)  (hK2 : ∀ a0 a1 a2 a3, zFr M z0 a3 → zPw M z0 (K2 a0 a1 a2 a3)) (h : zFr M z0 z) : zPw M z0 (fX19_netOfHost_2b N K2 x0 x1 x2 z) := by
  unfold fX19_netOfHost_2b
  exact zw_i (zw_s h) (zw_k (zw_l (fun y3 => zw_d (fun a4 => zw_i (wX19_netOfHost_54 (ztr rfl hM) hK2 h) (zw_k (zw_l (fun y7 => zw_d (fun a8 => zw_c (wX19_isOwn (ztr rfl hM)  h) (fun r9 z10 h1 => zw_i (wX19_netOfHost_54 (ztr rfl hM) hK2 h1) (zw_k (zw_l (fun y15 => zw_d (fun a16 => zw_k (zw_l (fun y18 => zw_d (fun a19 => zw_l (fun y20 => zw_d (fun a21 => zw_s h1))))))))))))))))))
def mX19_netOfHost_2 : Nat := 0x0
theorem wX19_netOfHost_2 {M : Nat} {z0 : St} {N : Nat}(hM : mX19_netOfHost_2 &&& M = mX19_netOfHost_2)  : ∀ (n : Nat) (y0 : Nat) (y1 : Int32) (y2 : Int32) (z : St), zFr M z0 z → zPw M z0 (fX19_netOfHost_2 N n y0 y1 y2 z) := by
  intro n
  induction n with
  | zero => intro y0 y1 y2 z h; exact zw_n
  | succ n ih => intro y0 y1 y2 z h; exact wX19_netOfHost_2b (ztr rfl hM)  (fun _ _ _ _ h => ih _ _ _ _ h) h
def mX19_netOfHost : Nat := 0x0
theorem wX19_netOfHost {M : Nat} {N : Nat} {x0 : Nat} {x1 : Int32} {z0 z : St} (hM : mX19_netOfHost &&& M = mX19_netOfHost)  (h : zFr M z0 z) : zPw M z0 (fX19_netOfHost N x0 x1 z) := by
  unfold fX19_netOfHost
  exact wX19_netOfHost_2 (ztr rfl hM)  _ _ _ _ _ h
def mX19_isLate : Nat := 0x10000000000000000000000000000000000000000000000000000000000000000000000000000000000000000000000000000000000000000000000000000000000000000000000000000000000000000000000000000000000000000000000000000000000000000000000000000000000000000000000000000000000000000000000000000000000000000000000000000000000000000000000000000000000000000000000000000000
theorem wX19_isLate {M : Nat} {N : Nat} {x0 : Nat} {x1 : Nat} {x2 : Nat} {z0 z : St} (hM : mX19_isLate &&& M = mX19_isLate)  (h : zFr M z0 z) : zPw M z0 (fX19_isLate N x0 x1 x2 z) := by
  unfold fX19_isLate
  exact zw_i (zw_s h) (zw_l (fun y2 => zw_d (fun a3 => zw_i (zw_s h) (zw_l (fun y5 => zw_d (fun a6 => zw_i (zw_s h) (zw_l (fun y8 => zw_d (fun a9 => zw_c (wX14_unthanked (ztr rfl hM)  h) (fun r10 z11 h1 => zw_i (zw_l (fun y15 => zw_d (fun a16 => zw_c (wX19_netOfHost (ztr rfl hM)  h1) (fun r17 z18 h2 => zw_i (zw_s h2) (zw_k (zw_l (fun y23 => zw_d (fun a24 => zw_l (fun y25 => zw_d (fun a26 => zw_c (wX19_areJoined (ztr rfl hM)  h2) (fun r27 z28 h3 => zw_i (zw_s h3) (zw_s h3)))))))))))) (zw_s h1)))))))))))
def mX19_overdue_88 : Nat := 0x0
theorem wX19_overdue_88 {M : Nat} {N : Nat} {K27 : Nat → Int32 → Int32 → St → Option (Int32 × St)} {K54 : Nat → Int32 → Int32 → Int32 → St → Option (Int32 × St)} {x0 : Nat} {x2 : Int32} {x3 : Int32} {s0 : Int32} {s1 : Int32} {z0 z : St} (hM : mX19_overdue_88 &&& M = mX19_overdue_88)  (hK27 : ∀ a0 a1 a2 a3, zFr M z0 a3 → zPw M z0 (K27 a0 a1 a2 a3)) (hK54 : ∀ a0 a1 a2 a3 a4, zFr M z0 a4 → zPw M z0 (K54 a0 a1 a2 a3 a4)) (h : zFr M z0 z) : zPw M z0 (fX19_overdue_88 N K27 K54 x0 x2 x3 s0 s1 z) := by
  unfold fX19_overdue_88
  exact zw_l (fun v1 => zw_l (fun v2 => hK54 _ _ _ _ _ h))
def mX19_overdue_145 : Nat := 0x0
theorem wX19_overdue_145 {M : Nat} {N : Nat} {K27 : Nat → Int32 → Int32 → St → Option (Int32 × St)} {x0 : Nat} {x1 : Int32} {x2 : Int32} {z0 z : St} (hM : mX19_overdue_145 &&& M = mX19_overdue_145)  (hK27 : ∀ a0 a1 a2 a3, zFr M z0 a3 → zPw M z0 (K27 a0 a1 a2 a3)) (h : zFr M z0 z) : zPw M z0 (fX19_overdue_145 N K27 x0 x1 x2 z) := by
  unfold fX19_overdue_145
  exact zw_l (fun v1 => hK27 _ _ _ _ h)
def mX19_overdue_54b : Nat := 0x0
theorem wX19_overdue_54b {M : Nat} {N : Nat} {K27 : Nat → Int32 → Int32 → St → Option (Int32 × St)} {K54 : Nat → Int32 → Int32 → Int32 → St → Option (Int32 × St)} {x0 : Nat} {x1 : Int32} {x2 : Int32} {x3 : Int32} {z0 z : St} (hM : mX19_overdue_54b &&& M = mX19_overdue_54b)  (hK27 : ∀ a0 a1 a2 a3, zFr M z0 a3 → zPw M z0 (K27 a0 a1 a2 a3)) (hK54 : ∀ a0 a1 a2 a3 a4, zFr M z0 a4 → zPw M z0 (K54 a0 a1 a2 a3 a4)) (h : zFr M z0 z) : zPw M z0 (fX19_overdue_54b N K27 K54 x0 x1 x2 x3 z) := by
  unfold fX19_overdue_54b
  exact zw_i (wX19_overdue_145 (ztr rfl hM) hK27 h) (zw_k (zw_l (fun y3 => zw_d (fun a4 => zw_k (zw_c (wX19_costAbove (ztr rfl hM)  h) (fun r6 z7 h1 => zw_i (wX19_overdue_88 (ztr rfl hM) hK27 hK54 h1) (wX19_overdue_88 (ztr rfl hM) hK27 hK54 h1)))))))
def mX19_overdue_54 : Nat := 0x0
theorem wX19_overdue_54 {M : Nat} {z0 : St} {N : Nat} {K27 : Nat → Int32 → Int32 → St → Option (Int32 × St)}(hM : mX19_overdue_54 &&& M = mX19_overdue_54)  (hK27 : ∀ a0 a1 a2 a3, zFr M z0 a3 → zPw M z0 (K27 a0 a1 a2 a3)) : ∀ (n : Nat) (y0 : Nat) (y1 : Int32) (y2 : Int32) (y3 : Int32) (z : St), zFr M z0 z → zPw M z0 (fX19_overdue_54 N K27 n y0 y1 y2 y3 z) := by
  intro n
  induction n with
  | zero => intro y0 y1 y2 y3 z h; exact zw_n
  | succ n ih => intro y0 y1 y2 y3 z h; exact wX19_overdue_54b (ztr rfl hM) hK27 (fun _ _ _ _ _ h => ih _ _ _ _ _ h) h
def mX19_overdue_137 : Nat := 0x0
theorem wX19_overdue_137 {M : Nat} {N : Nat} {K27 : Nat → Int32 → Int32 → St → Option (Int32 × St)} {K101 : Nat → Int32 → Int32 → Int32 → St → Option (Int32 × St)} {x0 : Nat} {x2 : Int32} {x3 : Int32} {s0 : Int32} {s1 : Int32} {z0 z : St} (hM : mX19_overdue_137 &&& M = mX19_overdue_137)  (hK27 : ∀ a0 a1 a2 a3, zFr M z0 a3 → zPw M z0 (K27 a0 a1 a2 a3)) (hK101 : ∀ a0 a1 a2 a3 a4, zFr M z0 a4 → zPw M z0 (K101 a0 a1 a2 a3 a4)) (h : zFr M z0 z) : zPw M z0 (fX19_overdue_137 N K27 K101 x0 x2 x3 s0 s1 z) := by
  unfold fX19_overdue_137
  exact zw_l (fun v1 => zw_l (fun v2 => hK101 _ _ _ _ _ h))
def mX19_overdue_101b : Nat := 0x10000000000000000000000000000000000000000000000000000000000000000000000000000000000000000000000000000000000000000000000000000000000000000000000000000000000000000000000000000000000000000000000000000000000000000000000000000000000000000000000000000000000000000000000000000000000000000000000000000000000000000000000000000000000000000000000000000000
theorem wX19_overdue_101b {M : Nat} {N : Nat} {K27 : Nat → Int32 → Int32 → St → Option (Int32 × St)} {K101 : Nat → Int32 → Int32 → Int32 → St → Option (Int32 × St)} {x0 : Nat} {x1 : Int32} {x2 : Int32} {x3 : Int32} {z0 z : St} (hM : mX19_overdue_101b &&& M = mX19_overdue_101b)  (hK27 : ∀ a0 a1 a2 a3, zFr M z0 a3 → zPw M z0 (K27 a0 a1 a2 a3)) (hK101 : ∀ a0 a1 a2 a3 a4, zFr M z0 a4 → zPw M z0 (K101 a0 a1 a2 a3 a4)) (h : zFr M z0 z) : zPw M z0 (fX19_overdue_101b N K27 K101 x0 x1 x2 x3 z) := by
  unfold fX19_overdue_101b
  exact zw_i (wX19_overdue_145 (ztr rfl hM) hK27 h) (zw_k (zw_l (fun y3 => zw_k (zw_l (fun y5 => zw_d (fun a6 => zw_k (zw_l (fun y8 => zw_d (fun a9 => zw_d (fun a10 => zw_c (wX19_isLate (ztr rfl hM)  h) (fun r11 z12 h1 => zw_i (wX19_overdue_137 (ztr rfl hM) hK27 hK101 h1) (wX19_overdue_137 (ztr rfl hM) hK27 hK101 h1))))))))))))
def mX19_overdue_101 : Nat := 0x10000000000000000000000000000000000000000000000000000000000000000000000000000000000000000000000000000000000000000000000000000000000000000000000000000000000000000000000000000000000000000000000000000000000000000000000000000000000000000000000000000000000000000000000000000000000000000000000000000000000000000000000000000000000000000000000000000000
theorem wX19_overdue_101 {M : Nat} {z0 : St} {N : Nat} {K27 : Nat → Int32 → Int32 → St → Option (Int32 × St)}(hM : mX19_overdue_101 &&& M = mX19_overdue_101)  (hK27 : ∀ a0 a1 a2 a3, zFr M z0 a3 → zPw M z0 (K27 a0 a1 a2 a3)) : ∀ (n : Nat) (y0 : Nat) (y1 : Int32) (y2 : Int32) (y3 : Int32) (z : St), zFr M z0 z → zPw M z0 (fX19_overdue_101 N K27 n y0 y1 y2 y3 z) := by
  intro n
  induction n with
  | zero => intro y0 y1 y2 y3 z h; exact zw_n
  | succ n ih => intro y0 y1 y2 y3 z h; exact wX19_overdue_101b (ztr rfl hM) hK27 (fun _ _ _ _ _ h => ih _ _ _ _ _ h) h
def mX19_overdue_27b : Nat := 0x18000000000000000000000000000000000000000000000000000000000000000000000000000000000000000000000000000000000000000000000000000000000000000000000000000000000000000000000000000000000000000000000000000000000000000000000000000000000000000000000000000000000000000000000000000000000000000000000000000000000000000000000000000000000000000000000000000000
theorem wX19_overdue_27b {M : Nat} {N : Nat} {K27 : Nat → Int32 → Int32 → St → Option (Int32 × St)} {x0 : Nat} {x1 : Int32} {x2 : Int32} {z0 z : St} (hM : mX19_overdue_27b &&& M = mX19_overdue_27b)  (hK27 : ∀ a0 a1 a2 a3, zFr M z0 a3 → zPw M z0 (K27 a0 a1 a2 a3)) (h : zFr M z0 z) : zPw M z0 (fX19_overdue_27b N K27 x0 x1 x2 z) := by
  unfold fX19_overdue_27b
  exact zw_i (zw_s h) (zw_k (zw_l (fun y3 => zw_d (fun a4 => zw_i (wX19_overdue_101 (ztr rfl hM) hK27 _ _ _ _ _ _ h) (zw_c (wX19_fromAbove (ztr rfl hM)  h) (fun _ z7 h1 => wX19_overdue_54 (ztr rfl hM) hK27 _ _ _ _ _ _ h1))))))
def mX19_overdue_27 : Nat := 0x18000000000000000000000000000000000000000000000000000000000000000000000000000000000000000000000000000000000000000000000000000000000000000000000000000000000000000000000000000000000000000000000000000000000000000000000000000000000000000000000000000000000000000000000000000000000000000000000000000000000000000000000000000000000000000000000000000000
theorem wX19_overdue_27 {M : Nat} {z0 : St} {N : Nat}(hM : mX19_overdue_27 &&& M = mX19_overdue_27)  : ∀ (n : Nat) (y0 : Nat) (y1 : Int32) (y2 : Int32) (z : St), zFr M z0 z → zPw M z0 (fX19_overdue_27 N n y0 y1 y2 z) := by
  intro n
  induction n with
  | zero => intro y0 y1 y2 z h; exact zw_n
  | succ n ih => intro y0 y1 y2 z h; exact wX19_overdue_27b (ztr rfl hM)  (fun _ _ _ _ h => ih _ _ _ _ h) h
def mX19_overdue : Nat := 0x18000000000000000000000000000000020000000000000000000000000000000000000000000000000000000000000000000000000000000000000000000000000000000000000000000000000000000000000000000000000000000000000000000000000000000000000000000000000000000000000000000000000000000000000000000000000000000000000000000000000000000000000000000000000000000000000000000000
theorem wX19_overdue {M : Nat} {N : Nat} {x0 : Nat} {z0 z : St} (hM : mX19_overdue &&& M = mX19_overdue)  (h : zFr M z0 z) : zPw M z0 (fX19_overdue N x0 z) := by
  unfold fX19_overdue
  exact zw_lI h (ztb hM rfl) (fun z1 h1 => zw_c (wX19_boundNow (ztr rfl hM)  h1) (fun r2 z3 h2 => zw_i (wX19_overdue_27 (ztr rfl hM)  _ _ _ _ _ h2) (zw_s h2)))
def mX11_net_13 : Nat := 0x0
theorem wX11_net_13 {M : Nat} {N : Nat} {z0 z : St} (hM : mX11_net_13 &&& M = mX11_net_13)  (h : zFr M z0 z) : zPw M z0 (fX11_net_13 N z) := by
  unfold fX11_net_13
  exact zw_s h
def mX11_net_34 : Nat := 0x0
theorem wX11_net_34 {M : Nat} {N : Nat} {z0 z : St} (hM : mX11_net_34 &&& M = mX11_net_34)  (h : zFr M z0 z) : zPw M z0 (fX11_net_34 N z) := by
  unfold fX11_net_34
  exact zw_s h
def mX11_net : Nat := 0x6200000000000000000000000000000000000000000000000000000000000000000000000000000000000000000000000600000000000000000000000000000000000000000000000000000000000000000000000000000000
theorem wX11_net {M : Nat} {N : Nat} {x0 : Nat} {x1 : Int32} {x2 : Int32} {z0 z : St} (hM : mX11_net &&& M = mX11_net)  (h : zFr M z0 z) : zPw M z0 (fX11_net N x0 x1 x2 z) := by
  unfold fX11_net
  exact zw_i (wX11_net_13 (ztr rfl hM)  h) (zw_i (zw_i (wX11_net_34 (ztr rfl hM)  h) (zw_i (zw_i (zw_k (zw_l (fun y7 => zw_d (fun a8 => zw_lI h (ztb hM rfl) (fun z9 h1 => zw_k (zw_l (fun y11 => zw_d (fun a12 => zw_lI h1 (ztb hM rfl) (fun z13 h2 => zw_lI h2 (ztb hM rfl) (fun z14 h3 => zw_c (wX11_changeWorld (ztr rfl hM)  h3) (fun _ z16 h4 => zw_s h4))))))))))) (zw_s h)) (wX11_net_34 (ztr rfl hM)  h))) (wX11_net_13 (ztr rfl hM)  h))
def mX11_cost_20 : Nat := 0x0
theorem wX11_cost_20 {M : Nat} {N : Nat} {z0 z : St} (hM : mX11_cost_20 &&& M = mX11_cost_20)  (h : zFr M z0 z) : zPw M z0 (fX11_cost_20 N z) := by
  unfold fX11_cost_20
  exact zw_s h
def mX11_cost_65 : Nat := 0x0
theorem wX11_cost_65 {M : Nat} {N : Nat} {z0 z : St} (hM : mX11_cost_65 &&& M = mX11_cost_65)  (h : zFr M z0 z) : zPw M z0 (fX11_cost_65 N z) := by
  unfold fX11_cost_65
  exact zw_s h
def mX11_cost : Nat := 0x6000000000000000000000000000000000000000000000002000000000000000000000000000000000000000000000000000000000000000000000000000000000000000000000000000000000000000000000000000000000
theorem wX11_cost {M : Nat} {N : Nat} {x0 : Nat} {x1 : Int32} {x2 : Int32} {x3 : Int32} {z0 z : St} (hM : mX11_cost &&& M = mX11_cost)  (h : zFr M z0 z) : zPw M z0 (fX11_cost N x0 x1 x2 x3 z) := by
  unfold fX11_cost
  exact zw_c (wX11_routerOf (ztr rfl hM)  h) (fun r1 z2 h1 => zw_o (wX11_cost_20 (ztr rfl hM)  h1) (fun a6 => zw_c (wX11_netOf (ztr rfl hM)  h1) (fun r7 z8 h2 => zw_o (wX11_cost_20 (ztr rfl hM)  h2) (fun a12 => zw_c (wX1_portOn (ztr rfl hM)  h2) (fun r13 z14 h3 => zw_o (zw_s h3) (fun a18 => zw_i (wX11_cost_65 (ztr rfl hM)  h3) (zw_i (zw_l (fun v21 => zw_i (zw_s h3) (zw_lI h3 (ztb hM rfl) (fun z23 h4 => zw_c (wX11_changeWorld (ztr rfl hM)  h4) (fun _ z25 h5 => zw_s h5))))) (wX11_cost_65 (ztr rfl hM)  h3))))))))
def mX11_link_44 : Nat := 0x6000000000000000000000000000000000000000000000000000000000000000000000000000000000000000000000000000000000000000000000000000000000000000000000000000000000000000000000000000000000
theorem wX11_link_44 {M : Nat} {N : Nat} {x0 : Nat} {z0 z : St} (hM : mX11_link_44 &&& M = mX11_link_44)  (h : zFr M z0 z) : zPw M z0 (fX11_link_44 N x0 z) := by
  unfold fX11_link_44
  exact zw_c (wX11_changeWorld (ztr rfl hM)  h) (fun _ z2 h1 => zw_s h1)
def mX11_link : Nat := 0x6000000000000000000000000000000000000000000000000000000000000000000000000000000000000000000000000000000000000000000000000000000000000000000000000000000186000000000000000000000000000000000000000000000000000000000000040000000000000000000000000000000000800000000000000000000000000000000000000000000000000000000000000000000000000000000
theorem wX11_link {M : Nat} {N : Nat} {x0 : Nat} {x1 : Int32} {x2 : Int32} {z0 z : St} (hM : mX11_link &&& M = mX11_link)  (h : zFr M z0 z) : zPw M z0 (fX11_link N x0 x1 x2 z) := by
  unfold fX11_link
  exact zw_c (wX11_netOf (ztr rfl hM)  h) (fun r1 z2 h1 => zw_o (zw_s h1) (fun a6 => zw_i (zw_q (zw_lI h1 (ztb hM rfl) (fun z8 h2 => zw_i (wX11_link_44 (ztr rfl hM)  h2) (zw_c (wX11_loseAllOn (ztr rfl hM)  h2) (fun _ z12 h3 => wX11_link_44 (ztr rfl hM)  h3))))) (zw_s h1)))
def mX11_fates_35 : Nat := 0x0
theorem wX11_fates_35 {M : Nat} {N : Nat} {z0 z : St} (hM : mX11_fates_35 &&& M = mX11_fates_35)  (h : zFr M z0 z) : zPw M z0 (fX11_fates_35 N z) := by
  unfold fX11_fates_35
  exact zw_s h
def mX11_fates_71b : Nat := 0x40000000000000000000000000000000000000000000000000000000000000000000000000000000000000000000000000000000000000000000000000000000000000000000000000000000000000000000000000000000000000000000000000000000000000000000000000000000000000000000000000004000000000000000000000000000000000000000000000000000000000000000000000000000000000
theorem wX11_fates_71b {M : Nat} {N : Nat} {K71 : Int64 → Int32 → Nat → Int32 → St → Option ((Int32 ⊕ Nat) × St)} {x2 : Int64} {x4 : Int32} {x5 : Nat} {x6 : Int32} {z0 z : St} (hM : mX11_fates_71b &&& M = mX11_fates_71b)  (hK71 : ∀ a0 a1 a2 a3 a4, zFr M z0 a4 → zPw M z0 (K71 a0 a1 a2 a3 a4)) (h : zFr M z0 z) : zPw M z0 (fX11_fates_71b N K71 x2 x4 x5 x6 z) := by
  unfold fX11_fates_71b
  exact zw_i (zw_s h) (zw_c (wX5_addFate (ztr rfl hM)  h) (fun _ z3 h1 => zw_l (fun v6 => hK71 _ _ _ _ _ h1)))
def mX11_fates_71 : Nat := 0x40000000000000000000000000000000000000000000000000000000000000000000000000000000000000000000000000000000000000000000000000000000000000000000000000000000000000000000000000000000000000000000000000000000000000000000000000000000000000000000000000004000000000000000000000000000000000000000000000000000000000000000000000000000000000
theorem wX11_fates_71 {M : Nat} {z0 : St} {N : Nat}(hM : mX11_fates_71 &&& M = mX11_fates_71)  : ∀ (n : Nat) (y0 : Int64) (y1 : Int32) (y2 : Nat) (y3 : Int32) (z : St), zFr M z0 z → zPw M z0 (fX11_fates_71 N n y0 y1 y2 y3 z) := by
  intro n
  induction n with
  | zero => intro y0 y1 y2 y3 z h; exact zw_n
  | succ n ih => intro y0 y1 y2 y3 z h; exact wX11_fates_71b (ztr rfl hM)  (fun _ _ _ _ _ h => ih _ _ _ _ _ h) h
def mX11_fates : Nat := 0x40000000000000000000000000000000000000000000000000000000000000000000000000000000000000000000000000000000000000000000000000000000000000000000000000000000000000000000000000000000000000000000000000000000000000000000000000000000000000000000000000004000000000000000000000000000000000000000000000000000000000000000000000000000000000
theorem wX11_fates {M : Nat} {N : Nat} {x0 : Nat} {x1 : Int32} {x2 : Int64} {x4 : Int32} {z0 z : St} (hM : mX11_fates &&& M = mX11_fates)  (h : zFr M z0 z) : zPw M z0 (fX11_fates N x0 x1 x2 x4 z) := by
  unfold fX11_fates
  exact zw_c (wX11_netOf (ztr rfl hM)  h) (fun r1 z2 h1 => zw_o (zw_s h1) (fun a6 => zw_i (wX11_fates_35 (ztr rfl hM)  h1) (zw_i (zw_i (wX11_fates_71 (ztr rfl hM)  _ _ _ _ _ _ h1) (zw_s h1)) (wX11_fates_35 (ztr rfl hM)  h1))))
def mX11_run_12 : Nat := 0x0
theorem wX11_run_12 {M : Nat} {N : Nat} {z0 z : St} (hM : mX11_run_12 &&& M = mX11_run_12)  (h : zFr M z0 z) : zPw M z0 (fX11_run_12 N z) := by
  unfold fX11_run_12
  exact zw_s h
def mX11_run_117 : Nat := 0x0
theorem wX11_run_117 {M : Nat} {N : Nat} {K45 : Nat → Int32 → Int32 → St → Option ((Int32 ⊕ Nat) × St)} {K66 : Nat → Int32 → Int32 → Int32 → St → Option ((Int32 ⊕ Nat) × St)} {x0 : Nat} {x1 : Int32} {x2 : Int32} {x3 : Int32} {z0 z : St} (hM : mX11_run_117 &&& M = mX11_run_117)  (hK45 : ∀ a0 a1 a2 a3, zFr M z0 a3 → zPw M z0 (K45 a0 a1 a2 a3)) (hK66 : ∀ a0 a1 a2 a3 a4, zFr M z0 a4 → zPw M z0 (K66 a0 a1 a2 a3 a4)) (h : zFr M z0 z) : zPw M z0 (fX11_run_117 N K45 K66 x0 x1 x2 x3 z) := by
  unfold fX11_run_117
  exact zw_l (fun v1 => hK66 _ _ _ _ _ h)
def mX11_run_66b : Nat := 0x60bfa042ff700000000000000000000000000000000000000000000000000000000000000000000000000000000000000000000000000000000000000000000000000000000000000000000992000000000000001c70000000000000e2200000000000012000000000000007eff00000000000002480000000000000260000000000000000c0000000000003e210000000000000e6f000000000000000000000000000003c0
theorem wX11_run_66b {M : Nat} {N : Nat} {K45 : Nat → Int32 → Int32 → St → Option ((Int32 ⊕ Nat) × St)} {K66 : Nat → Int32 → Int32 → Int32 → St → Option ((Int32 ⊕ Nat) × St)} {x0 : Nat} {x1 : Int32} {x2 : Int32} {x3 : Int32} {z0 z : St} (hM : mX11_run_66b &&& M = mX11_run_66b)  (hK45 : ∀ a0 a1 a2 a3, zFr M z0 a3 → zPw M z0 (K45 a0 a1 a2 a3)) (hK66 : ∀ a0 a1 a2 a3 a4, zFr M z0 a4 → zPw M z0 (K66 a0 a1 a2 a3 a4)) (h : zFr M z0 z) : zPw M z0 (fX11_run_66b N K45 K66 x0 x1 x2 x3 z) := by
  unfold fX11_run_66b
  exact zw_i (zw_l (fun v2 => hK45 _ _ _ _ h)) (zw_k (zw_l (fun y4 => zw_d (fun a5 => zw_c (wX11_doAskings (ztr rfl hM)  h) (fun _ z7 h1 => zw_c (wX11_givePartialUp (ztr rfl hM)  h1) (fun _ z11 h2 => zw_i (zw_c (wX11_doHost (ztr rfl hM)  h2) (fun _ z16 h3 => wX11_run_117 (ztr rfl hM) hK45 hK66 h3)) (zw_c (wX11_doRouter (ztr rfl hM)  h2) (fun _ z20 h4 => wX11_run_117 (ztr rfl hM) hK45 hK66 h4))))))))
def mX11_run_66 : Nat := 0x60bfa042ff700000000000000000000000000000000000000000000000000000000000000000000000000000000000000000000000000000000000000000000000000000000000000000000992000000000000001c70000000000000e2200000000000012000000000000007eff00000000000002480000000000000260000000000000000c0000000000003e210000000000000e6f000000000000000000000000000003c0
theorem wX11_run_66 {M : Nat} {z0 : St} {N : Nat} {K45 : Nat → Int32 → Int32 → St → Option ((Int32 ⊕ Nat) × St)}(hM : mX11_run_66 &&& M = mX11_run_66)  (hK45 : ∀ a0 a1 a2 a3, zFr M z0 a3 → zPw M z0 (K45 a0 a1 a2 a3)) : ∀ (n : Nat) (y0 : Nat) (y1 : Int32) (y2 : Int32) (y3 : Int32) (z : St), zFr M z0 z → zPw M z0 (fX11_run_66 N K45 n y0 y1 y2 y3 z) := by
  intro n
  induction n with
  | zero => intro y0 y1 y2 y3 z h; exact zw_n
  | succ n ih => intro y0 y1 y2 y3 z h; exact wX11_run_66b (ztr rfl hM) hK45 (fun _ _ _ _ _ h => ih _ _ _ _ _ h) h
def mX11_run_45b : Nat := 0x67bfe372ff70000000000000000000000000000000000000000000000000000000000000000000000000000000000000000000000000000000000000000000000000000000000000000000099b000000000000001ff0000000000000e22000000000000120000000000000ffeff0000000000003ffe000000000000066000000000000000fc000000000000ffff0000000000000fef000000000000020000000000000003c0
theorem wX11_run_45b {M : Nat} {N : Nat} {K45 : Nat → Int32 → Int32 → St → Option ((Int32 ⊕ Nat) × St)} {x0 : Nat} {x1 : Int32} {x2 : Int32} {z0 z : St} (hM : mX11_run_45b &&& M = mX11_run_45b)  (hK45 : ∀ a0 a1 a2 a3, zFr M z0 a3 → zPw M z0 (K45 a0 a1 a2 a3)) (h : zFr M z0 z) : zPw M z0 (fX11_run_45b N K45 x0 x1 x2 z) := by
  unfold fX11_run_45b
  exact zw_i (zw_s h) (zw_lI h (ztb hM rfl) (fun z2 h1 => zw_c (wX11_letArrive (ztr rfl hM)  h1) (fun _ z4 h2 => wX11_run_66 (ztr rfl hM) hK45 _ _ _ _ _ _ h2)))
def mX11_run_45 : Nat := 0x67bfe372ff70000000000000000000000000000000000000000000000000000000000000000000000000000000000000000000000000000000000000000000000000000000000000000000099b000000000000001ff0000000000000e22000000000000120000000000000ffeff0000000000003ffe000000000000066000000000000000fc000000000000ffff0000000000000fef000000000000020000000000000003c0
theorem wX11_run_45 {M : Nat} {z0 : St} {N : Nat}(hM : mX11_run_45 &&& M = mX11_run_45)  : ∀ (n : Nat) (y0 : Nat) (y1 : Int32) (y2 : Int32) (z : St), zFr M z0 z → zPw M z0 (fX11_run_45 N n y0 y1 y2 z) := by
  intro n
  induction n with
  | zero => intro y0 y1 y2 z h; exact zw_n
  | succ n ih => intro y0 y1 y2 z h; exact wX11_run_45b (ztr rfl hM)  (fun _ _ _ _ h => ih _ _ _ _ h) h
def mX11_run : Nat := 0x67bfe372ff70000000000000000000000000000000000000000000000000000000000000000000000000000000000000000000000000000000000000000000000000000000000000000000099b000000000000001ff0000000000000e22000000000000120000000000000ffeff0000000000003ffe000000000000066000000000000000fc000000000000ffff0000000000000fef000000000000020000000000000003c0
theorem wX11_run {M : Nat} {N : Nat} {x0 : Nat} {x1 : Int32} {z0 z : St} (hM : mX11_run &&& M = mX11_run)  (h : zFr M z0 z) : zPw M z0 (fX11_run N x0 x1 z) := by
  unfold fX11_run
  exact zw_i (wX11_run_12 (ztr rfl hM)  h) (zw_i (zw_i (wX11_run_45 (ztr rfl hM)  _ _ _ _ _ h) (zw_s h)) (wX11_run_12 (ztr rfl hM)  h))
def mX11_listen_33 : Nat := 0x0
theorem wX11_listen_33 {M : Nat} {N : Nat} {z0 z : St} (hM : mX11_listen_33 &&& M = mX11_listen_33)  (h : zFr M z0 z) : zPw M z0 (fX11_listen_33 N z) := by
  unfold fX11_listen_33
  exact zw_s h
def mX11_listen_53 : Nat := 0x0
theorem wX11_listen_53 {M : Nat} {N : Nat} {z0 z : St} (hM : mX11_listen_53 &&& M = mX11_listen_53)  (h : zFr M z0 z) : zPw M z0 (fX11_listen_53 N z) := by
  unfold fX11_listen_53
  exact zw_s h
def mX11_listen : Nat := 0x2000000000000000000000000000000000000000000000000000000000000000000000000000000000000000000000000000000000000000000000000000000000000000000000001300000000000000000000000000000000
theorem wX11_listen {M : Nat} {N : Nat} {x0 : Nat} {x1 : Int32} {x2 : Int32} {x3 : Int32} {z0 z : St} (hM : mX11_listen &&& M = mX11_listen)  (h : zFr M z0 z) : zPw M z0 (fX11_listen N x0 x1 x2 x3 z) := by
  unfold fX11_listen
  exact zw_c (wX11_hostOf (ztr rfl hM)  h) (fun r1 z2 h1 => zw_o (zw_s h1) (fun a6 => zw_i (wX11_listen_33 (ztr rfl hM)  h1) (zw_i (zw_i (wX11_listen_53 (ztr rfl hM)  h1) (zw_i (zw_c (wX1_unusedDoor (ztr rfl hM)  h1) (fun r11 z12 h2 => zw_i (zw_c (wX1_listenerAt (ztr rfl hM)  h2) (fun r16 z17 h3 => zw_i (zw_k (zw_l (fun y22 => zw_d (fun a23 => zw_c (wX2_startListening (ztr rfl hM)  h3) (fun _ z25 h4 => zw_c (wX11_stir (ztr rfl hM)  h4) (fun _ z29 h5 => zw_s h5)))))) (zw_s h3))) (zw_s h2))) (wX11_listen_53 (ztr rfl hM)  h1))) (wX11_listen_33 (ztr rfl hM)  h1))))
def mX11_open_33 : Nat := 0x0
theorem wX11_open_33 {M : Nat} {N : Nat} {z0 z : St} (hM : mX11_open_33 &&& M = mX11_open_33)  (h : zFr M z0 z) : zPw M z0 (fX11_open_33 N z) := by
  unfold fX11_open_33
  exact zw_s h
def mX11_open : Nat := 0x2000000000000000000000000000000000000000000000000000000000000000000000000000000000000000000000000000000000000000000000000000000000000000000000000000a0000000000000007f0000000000000000000000000000000000000000000000000000000000003ffe000000000000000000000000000000fc000000000000fe3f0000000000000fef00000000000010000000000000000000
theorem wX11_open {M : Nat} {N : Nat} {x0 : Nat} {x1 : Int32} {x2 : Int32} {x3 : Int32} {z0 z : St} (hM : mX11_open &&& M = mX11_open)  (h : zFr M z0 z) : zPw M z0 (fX11_open N x0 x1 x2 x3 z) := by
  unfold fX11_open
  exact zw_c (wX11_hostOf (ztr rfl hM)  h) (fun r1 z2 h1 => zw_o (zw_s h1) (fun a6 => zw_i (wX11_open_33 (ztr rfl hM)  h1) (zw_i (zw_c (wX1_hasAddress (ztr rfl hM)  h1) (fun r9 z10 h2 => zw_i (zw_c (wX1_unusedDoor (ztr rfl hM)  h2) (fun r14 z15 h3 => zw_i (zw_k (zw_l (fun y20 => zw_o (zw_s h3) (fun a22 => zw_i (zw_k (zw_l (fun y25 => zw_d (fun a26 => zw_c (wX2_giveEnd (ztr rfl hM)  h3) (fun _ z28 h4 => zw_lI h4 (ztb hM rfl) (fun z31 h5 => zw_lI h5 (ztb hM rfl) (fun z32 h6 => zw_l (fun y33 => zw_c (wX11_firstNumber (ztr rfl hM)  h6) (fun r34 z35 h7 => zw_l (fun y38 => zw_d (fun a39 => zw_d (fun a40 => zw_c (wX3_begin (ztr rfl hM)  h7) (fun _ z42 h8 => zw_l (fun y45 => zw_d (fun a46 => zw_c (wX3_startAsking (ztr rfl hM)  h8) (fun _ z48 h9 => zw_c (wX11_stir (ztr rfl hM)  h9) (fun _ z52 h10 => zw_s h10))))))))))))))))) (zw_s h3))))) (zw_s h3))) (zw_s h2))) (wX11_open_33 (ztr rfl hM)  h1))))
def mX11_accept_23 : Nat := 0x0
theorem wX11_accept_23 {M : Nat} {N : Nat} {z0 z : St} (hM : mX11_accept_23 &&& M = mX11_accept_23)  (h : zFr M z0 z) : zPw M z0 (fX11_accept_23 N z) := by
  unfold fX11_accept_23
  exact zw_s h
def mX11_accept_139 : Nat := 0x0
theorem wX11_accept_139 {M : Nat} {N : Nat} {K57 : Int32 → Nat → Int32 → St → Option ((Int32 ⊕ Nat) × St)} {x2 : Int32} {x3 : Nat} {x5 : Int32} {z0 z : St} (hM : mX11_accept_139 &&& M = mX11_accept_139)  (hK57 : ∀ a0 a1 a2 a3, zFr M z0 a3 → zPw M z0 (K57 a0 a1 a2 a3)) (h : zFr M z0 z) : zPw M z0 (fX11_accept_139 N K57 x2 x3 x5 z) := by
  unfold fX11_accept_139
  exact zw_l (fun v1 => hK57 _ _ _ _ h)
def mX11_accept_57b : Nat := 0x8000000000000000000000000000000000
theorem wX11_accept_57b {M : Nat} {N : Nat} {K57 : Int32 → Nat → Int32 → St → Option ((Int32 ⊕ Nat) × St)} {x2 : Int32} {x3 : Nat} {x5 : Int32} {z0 z : St} (hM : mX11_accept_57b &&& M = mX11_accept_57b)  (hK57 : ∀ a0 a1 a2 a3, zFr M z0 a3 → zPw M z0 (K57 a0 a1 a2 a3)) (h : zFr M z0 z) : zPw M z0 (fX11_accept_57b N K57 x2 x3 x5 z) := by
  unfold fX11_accept_57b
  exact zw_i (zw_s h) (zw_k (zw_l (fun y3 => zw_d (fun a4 => zw_i (wX11_accept_139 (ztr rfl hM) hK57 h) (zw_i (wX11_accept_139 (ztr rfl hM) hK57 h) (zw_i (zw_l (fun y8 => zw_d (fun a9 => zw_i (wX11_accept_139 (ztr rfl hM) hK57 h) (zw_l (fun y11 => zw_d (fun a12 => zw_i (zw_lI h (ztb hM rfl) (fun z14 h1 => zw_s h1)) (wX11_accept_139 (ztr rfl hM) hK57 h))))))) (wX11_accept_139 (ztr rfl hM) hK57 h)))))))
def mX11_accept_57 : Nat := 0x8000000000000000000000000000000000
theorem wX11_accept_57 {M : Nat} {z0 : St} {N : Nat}(hM : mX11_accept_57 &&& M = mX11_accept_57)  : ∀ (n : Nat) (y0 : Int32) (y1 : Nat) (y2 : Int32) (z : St), zFr M z0 z → zPw M z0 (fX11_accept_57 N n y0 y1 y2 z) := by
  intro n
  induction n with
  | zero => intro y0 y1 y2 z h; exact zw_n
  | succ n ih => intro y0 y1 y2 z h; exact wX11_accept_57b (ztr rfl hM)  (fun _ _ _ _ h => ih _ _ _ _ h) h
def mX11_accept : Nat := 0x8000000000000000000000000000000000
theorem wX11_accept {M : Nat} {N : Nat} {x0 : Nat} {x1 : Int32} {x2 : Int32} {z0 z : St} (hM : mX11_accept &&& M = mX11_accept)  (h : zFr M z0 z) : zPw M z0 (fX11_accept N x0 x1 x2 z) := by
  unfold fX11_accept
  exact zw_c (wX11_hostOf (ztr rfl hM)  h) (fun r1 z2 h1 => zw_c (wX11_doorOf (ztr rfl hM)  h1) (fun r5 z6 h2 => zw_o (wX11_accept_23 (ztr rfl hM)  h2) (fun a10 => zw_o (wX11_accept_23 (ztr rfl hM)  h2) (fun a12 => zw_i (wX11_accept_57 (ztr rfl hM)  _ _ _ _ _ h2) (zw_s h2)))))
def mX11_write_37 : Nat := 0x0
theorem wX11_write_37 {M : Nat} {N : Nat} {z0 z : St} (hM : mX11_write_37 &&& M = mX11_write_37)  (h : zFr M z0 z) : zPw M z0 (fX11_write_37 N z) := by
  unfold fX11_write_37
  exact zw_s h
def mX11_write_92b : Nat := 0x38000100000000000000000000000000000000000000000000000000000000000000000000000000000000000000000000000000000000000000000000000000000000000000000000000008002000000000000000010000000000000000000000000000000000000000000000000000000000000004000000000000000000000000000000000000000000000000000000000000000000000000000000000000000000000000
theorem wX11_write_92b {M : Nat} {N : Nat} {K92 : Nat → Int64 → Int32 → Nat → Int32 → Int32 → St → Option ((Int32 ⊕ Nat) × St)} {x0 : Nat} {x3 : Int64} {x5 : Int32} {x6 : Nat} {x7 : Int32} {x8 : Int32} {z0 z : St} (hM : mX11_write_92b &&& M = mX11_write_92b)  (hK92 : ∀ a0 a1 a2 a3 a4 a5 a6, zFr M z0 a6 → zPw M z0 (K92 a0 a1 a2 a3 a4 a5 a6)) (h : zFr M z0 z) : zPw M z0 (fX11_write_92b N K92 x0 x3 x5 x6 x7 x8 z) := by
  unfold fX11_write_92b
  exact zw_i (zw_l (fun y2 => zw_d (fun a3 => zw_c (wX11_noteWriting (ztr rfl hM)  h) (fun _ z5 h1 => zw_c (wX11_wroteTo (ztr rfl hM)  h1) (fun _ z9 h2 => zw_s h2))))) (zw_l (fun y12 => zw_d (fun a13 => zw_l (fun y14 => zw_d (fun a15 => zw_c (wX6_add (ztr rfl hM)  h) (fun _ z17 h3 => zw_l (fun v20 => hK92 _ _ _ _ _ _ _ h3)))))))
def mX11_write_92 : Nat := 0x38000100000000000000000000000000000000000000000000000000000000000000000000000000000000000000000000000000000000000000000000000000000000000000000000000008002000000000000000010000000000000000000000000000000000000000000000000000000000000004000000000000000000000000000000000000000000000000000000000000000000000000000000000000000000000000
theorem wX11_write_92 {M : Nat} {z0 : St} {N : Nat}(hM : mX11_write_92 &&& M = mX11_write_92)  : ∀ (n : Nat) (y0 : Nat) (y1 : Int64) (y2 : Int32) (y3 : Nat) (y4 : Int32) (y5 : Int32) (z : St), zFr M z0 z → zPw M z0 (fX11_write_92 N n y0 y1 y2 y3 y4 y5 z) := by
  intro n
  induction n with
  | zero => intro y0 y1 y2 y3 y4 y5 z h; exact zw_n
  | succ n ih => intro y0 y1 y2 y3 y4 y5 z h; exact wX11_write_92b (ztr rfl hM)  (fun _ _ _ _ _ _ _ h => ih _ _ _ _ _ _ _ h) h
def mX11_write : Nat := 0x38000100000000000000000000000000000000000000000000000000000000000000000000000000000000000000000000000000000000000000000000000000000000000000000000000008002000000000000000010000000000000000000000000000000000000000000000000000000000000004000000000000000000000000000000000000000000000000000000000000000000000000000000000000000000000000
theorem wX11_write {M : Nat} {N : Nat} {x0 : Nat} {x1 : Int32} {x2 : Int32} {x3 : Int64} {x5 : Int32} {z0 z : St} (hM : mX11_write &&& M = mX11_write)  (h : zFr M z0 z) : zPw M z0 (fX11_write N x0 x1 x2 x3 x5 z) := by
  unfold fX11_write
  exact zw_c (wX11_doorOf (ztr rfl hM)  h) (fun r1 z2 h1 => zw_o (zw_s h1) (fun a6 => zw_i (wX11_write_37 (ztr rfl hM)  h1) (zw_i (zw_c (wX2_takesBytes (ztr rfl hM)  h1) (fun r9 z10 h2 => zw_i (zw_l (fun y14 => zw_d (fun a15 => zw_l (fun y16 => zw_d (fun a17 => zw_l (fun v18 => wX11_write_92 (ztr rfl hM)  _ _ _ _ _ _ _ _ h2)))))) (zw_s h2))) (wX11_write_37 (ztr rfl hM)  h1))))
def mX11_fill_38 : Nat := 0x0
theorem wX11_fill_38 {M : Nat} {N : Nat} {z0 z : St} (hM : mX11_fill_38 &&& M = mX11_fill_38)  (h : zFr M z0 z) : zPw M z0 (fX11_fill_38 N z) := by
  unfold fX11_fill_38
  exact zw_s h
def mX11_fill_93b : Nat := 0x38000100000000000000000000000000000000000000000000000000000000000000000000000000000000000000000000000000000000000000000000000000000000000000000000000008002000000000000000010000000000000000000000000000000000000000000000000000000000000004000000000000000000000000000000000000000000000000000000000000000000000000000000000000000000000000
theorem wX11_fill_93b {M : Nat} {N : Nat} {K93 : Nat → Int32 → Int32 → Nat → Int32 → Int32 → St → Option ((Int32 ⊕ Nat) × St)} {x0 : Nat} {x3 : Int32} {x4 : Int32} {x6 : Nat} {x7 : Int32} {x8 : Int32} {z0 z : St} (hM : mX11_fill_93b &&& M = mX11_fill_93b)  (hK93 : ∀ a0 a1 a2 a3 a4 a5 a6, zFr M z0 a6 → zPw M z0 (K93 a0 a1 a2 a3 a4 a5 a6)) (h : zFr M z0 z) : zPw M z0 (fX11_fill_93b N K93 x0 x3 x4 x6 x7 x8 z) := by
  unfold fX11_fill_93b
  exact zw_i (zw_l (fun y2 => zw_d (fun a3 => zw_c (wX11_noteWriting (ztr rfl hM)  h) (fun _ z5 h1 => zw_c (wX11_wroteTo (ztr rfl hM)  h1) (fun _ z9 h2 => zw_s h2))))) (zw_l (fun y12 => zw_d (fun a13 => zw_l (fun y14 => zw_d (fun a15 => zw_c (wX6_add (ztr rfl hM)  h) (fun _ z17 h3 => zw_l (fun v20 => hK93 _ _ _ _ _ _ _ h3)))))))
def mX11_fill_93 : Nat := 0x38000100000000000000000000000000000000000000000000000000000000000000000000000000000000000000000000000000000000000000000000000000000000000000000000000008002000000000000000010000000000000000000000000000000000000000000000000000000000000004000000000000000000000000000000000000000000000000000000000000000000000000000000000000000000000000
theorem wX11_fill_93 {M : Nat} {z0 : St} {N : Nat}(hM : mX11_fill_93 &&& M = mX11_fill_93)  : ∀ (n : Nat) (y0 : Nat) (y1 : Int32) (y2 : Int32) (y3 : Nat) (y4 : Int32) (y5 : Int32) (z : St), zFr M z0 z → zPw M z0 (fX11_fill_93 N n y0 y1 y2 y3 y4 y5 z) := by
  intro n
  induction n with
  | zero => intro y0 y1 y2 y3 y4 y5 z h; exact zw_n
  | succ n ih => intro y0 y1 y2 y3 y4 y5 z h; exact wX11_fill_93b (ztr rfl hM)  (fun _ _ _ _ _ _ _ h => ih _ _ _ _ _ _ _ h) h
def mX11_fill : Nat := 0x38000100000000000000000000000000000000000000000000000000000000000000000000000000000000000000000000000000000000000000000000000000000000000000000000000008002000000000000000010000000000000000000000000000000000000000000000000000000000000004000000000000000000000000000000000000000000000000000000000000000000000000000000000000000000000000
theorem wX11_fill {M : Nat} {N : Nat} {x0 : Nat} {x1 : Int32} {x2 : Int32} {x3 : Int32} {x4 : Int32} {x5 : Int32} {z0 z : St} (hM : mX11_fill &&& M = mX11_fill)  (h : zFr M z0 z) : zPw M z0 (fX11_fill N x0 x1 x2 x3 x4 x5 z) := by
  unfold fX11_fill
  exact zw_c (wX11_doorOf (ztr rfl hM)  h) (fun r1 z2 h1 => zw_o (zw_s h1) (fun a6 => zw_i (wX11_fill_38 (ztr rfl hM)  h1) (zw_i (zw_c (wX2_takesBytes (ztr rfl hM)  h1) (fun r9 z10 h2 => zw_i (zw_l (fun y14 => zw_d (fun a15 => zw_l (fun y16 => zw_d (fun a17 => zw_l (fun v18 => wX11_fill_93 (ztr rfl hM)  _ _ _ _ _ _ _ _ h2)))))) (zw_s h2))) (wX11_fill_38 (ztr rfl hM)  h1))))
def mX11_readableDoor_86 : Nat := 0x0
theorem wX11_readableDoor_86 {M : Nat} {N : Nat} {z0 z : St} (hM : mX11_readableDoor_86 &&& M = mX11_readableDoor_86)  (h : zFr M z0 z) : zPw M z0 (fX11_readableDoor_86 N z) := by
  unfold fX11_readableDoor_86
  exact zw_s h
def mX11_readableDoor : Nat := 0x0
theorem wX11_readableDoor {M : Nat} {N : Nat} {x0 : Nat} {x1 : Int32} {x2 : Int32} {z0 z : St} (hM : mX11_readableDoor &&& M = mX11_readableDoor)  (h : zFr M z0 z) : zPw M z0 (fX11_readableDoor N x0 x1 x2 z) := by
  unfold fX11_readableDoor
  exact zw_c (wX11_doorOf (ztr rfl hM)  h) (fun r1 z2 h1 => zw_o (zw_s h1) (fun a6 => zw_i (zw_l (fun y8 => zw_d (fun a9 => zw_l (fun y10 => zw_d (fun a11 => zw_i (zw_s h1) (zw_l (fun y13 => zw_d (fun a14 => zw_i (zw_s h1) (zw_c (wX3_isDead (ztr rfl hM)  h1) (fun r16 z17 h2 => zw_i (wX11_readableDoor_86 (ztr rfl hM)  h2) (zw_i (zw_s h2) (wX11_readableDoor_86 (ztr rfl hM)  h2)))))))))))) (zw_s h1)))
def mX11_read : Nat := 0x100000000000000000000000000000000000000000000000000000000000000000000000000000000000000000000000000000000000000000c00000000000020000000000000000c0000000000000000000000000000000000
theorem wX11_read {M : Nat} {N : Nat} {x0 : Nat} {x1 : Int32} {x2 : Int32} {z0 z : St} (hM : mX11_read &&& M = mX11_read)  (h : zFr M z0 z) : zPw M z0 (fX11_read N x0 x1 x2 z) := by
  unfold fX11_read
  exact zw_cx (wX11_readableDoor (ztr rfl hM)  h) (fun r1 z2 h1 => zw_d (fun a5 => zw_l (fun y6 => zw_d (fun a7 => zw_l (fun y8 => zw_d (fun a9 => zw_i (zw_c (wX11_takeByte (ztr rfl hM)  h1) (fun r11 z12 h2 => zw_s h2)) (zw_l (fun y15 => zw_d (fun a16 => zw_l (fun y17 => zw_d (fun a18 => zw_i (zw_s h1) (zw_s h1))))))))))))
def mX11_readAll_32 : Nat := 0x0
theorem wX11_readAll_32 {M : Nat} {N : Nat} {z0 z : St} (hM : mX11_readAll_32 &&& M = mX11_readAll_32)  (h : zFr M z0 z) : zPw M z0 (fX11_readAll_32 N z) := by
  unfold fX11_readAll_32
  exact zw_s h
def mX11_readAll_57b : Nat := 0x100000000000000000000000000000000000000000000000000000000000000000000000000000000000000000000000000000000000000000c00000000000020000000000000000c0000000000000000000000000000000000
theorem wX11_readAll_57b {M : Nat} {N : Nat} {K57 : Nat → Int32 → Option Nat → Int32 → Int32 → St → Option ((Int32 ⊕ Nat) × St)} {x0 : Nat} {x3 : Int32} {x4 : Option Nat} {x5 : Int32} {x6 : Int32} {z0 z : St} (hM : mX11_readAll_57b &&& M = mX11_readAll_57b)  (hK57 : ∀ a0 a1 a2 a3 a4 a5, zFr M z0 a5 → zPw M z0 (K57 a0 a1 a2 a3 a4 a5)) (h : zFr M z0 z) : zPw M z0 (fX11_readAll_57b N K57 x0 x3 x4 x5 x6 z) := by
  unfold fX11_readAll_57b
  exact zw_i (zw_s h) (zw_d (fun a2 => zw_l (fun y3 => zw_d (fun a4 => zw_l (fun y5 => zw_d (fun a6 => zw_i (zw_s h) (zw_c (wX11_takeByte (ztr rfl hM)  h) (fun r8 z9 h1 => zw_l (fun v12 => zw_l (fun v13 => hK57 _ _ _ _ _ _ h1))))))))))
def mX11_readAll_57 : Nat := 0x100000000000000000000000000000000000000000000000000000000000000000000000000000000000000000000000000000000000000000c00000000000020000000000000000c0000000000000000000000000000000000
theorem wX11_readAll_57 {M : Nat} {z0 : St} {N : Nat}(hM : mX11_readAll_57 &&& M = mX11_readAll_57)  : ∀ (n : Nat) (y0 : Nat) (y1 : Int32) (y2 : Option Nat) (y3 : Int32) (y4 : Int32) (z : St), zFr M z0 z → zPw M z0 (fX11_readAll_57 N n y0 y1 y2 y3 y4 z) := by
  intro n
  induction n with
  | zero => intro y0 y1 y2 y3 y4 z h; exact zw_n
  | succ n ih => intro y0 y1 y2 y3 y4 z h; exact wX11_readAll_57b (ztr rfl hM)  (fun _ _ _ _ _ _ h => ih _ _ _ _ _ _ h) h
def mX11_readAll : Nat := 0x100000000000000000000000000000000000000000000000000000000000000000000000000000000000000000000000000000000000000000c00000000000020000000000000000c0000000000000000000000000000000000
theorem wX11_readAll {M : Nat} {N : Nat} {x0 : Nat} {x1 : Int32} {x2 : Int32} {x3 : Int32} {z0 z : St} (hM : mX11_readAll &&& M = mX11_readAll)  (h : zFr M z0 z) : zPw M z0 (fX11_readAll N x0 x1 x2 x3 z) := by
  unfold fX11_readAll
  exact zw_c (wX11_doorOf (ztr rfl hM)  h) (fun r1 z2 h1 => zw_o (zw_s h1) (fun a6 => zw_i (wX11_readAll_32 (ztr rfl hM)  h1) (zw_i (zw_cx (wX11_readableDoor (ztr rfl hM)  h1) (fun r9 z10 h2 => wX11_readAll_57 (ztr rfl hM)  _ _ _ _ _ _ _ h2)) (wX11_readAll_32 (ztr rfl hM)  h1))))
def mX11_close_23 : Nat := 0x0
theorem wX11_close_23 {M : Nat} {N : Nat} {z0 z : St} (hM : mX11_close_23 &&& M = mX11_close_23)  (h : zFr M z0 z) : zPw M z0 (fX11_close_23 N z) := by
  unfold fX11_close_23
  exact zw_s h
def mX11_close_140 : Nat := 0x2000000000000000000000000000000000000000000000000000000000000000000000000000000000000000000000000000000000000000000000000000000000000000000000000000000000000000000000000000000000
theorem wX11_close_140 {M : Nat} {N : Nat} {x0 : Nat} {z0 z : St} (hM : mX11_close_140 &&& M = mX11_close_140)  (h : zFr M z0 z) : zPw M z0 (fX11_close_140 N x0 z) := by
  unfold fX11_close_140
  exact zw_c (wX11_stir (ztr rfl hM)  h) (fun _ z2 h1 => zw_s h1)
def mX11_close : Nat := 0x2000000000000000010000000000000000000000000000000000000000000000000000000000000100000000000000000000000000000000000000000000003be1000000000000006f00000000000000000000000000000000
theorem wX11_close {M : Nat} {N : Nat} {x0 : Nat} {x1 : Int32} {x2 : Int32} {z0 z : St} (hM : mX11_close &&& M = mX11_close)  (h : zFr M z0 z) : zPw M z0 (fX11_close N x0 x1 x2 z) := by
  unfold fX11_close
  exact zw_c (wX11_hostOf (ztr rfl hM)  h) (fun r1 z2 h1 => zw_c (wX11_doorOf (ztr rfl hM)  h1) (fun r5 z6 h2 => zw_o (wX11_close_23 (ztr rfl hM)  h2) (fun a10 => zw_o (wX11_close_23 (ztr rfl hM)  h2) (fun a12 => zw_i (zw_i (zw_l (fun y15 => zw_d (fun a16 => zw_c (wX3_isDead (ztr rfl hM)  h2) (fun r17 z18 h3 => zw_i (zw_l (fun y22 => zw_d (fun a23 => zw_l (fun y24 => zw_d (fun a25 => zw_i (zw_l (fun y27 => zw_d (fun a28 => zw_c (wX3_closeByOwner (ztr rfl hM)  h3) (fun _ z30 h4 => zw_l (fun y33 => zw_d (fun a34 => zw_c (wX3_armProbe (ztr rfl hM)  h4) (fun _ z36 h5 => wX11_close_140 (ztr rfl hM)  h5))))))) (zw_s h3)))))) (zw_c (wX2_setUnused (ztr rfl hM)  h3) (fun _ z40 h6 => wX11_close_140 (ztr rfl hM)  h6)))))) (zw_c (wX11_abandonThrough (ztr rfl hM)  h2) (fun _ z44 h7 => zw_c (wX2_setUnused (ztr rfl hM)  h7) (fun _ z48 h8 => wX11_close_140 (ztr rfl hM)  h8)))) (zw_s h2)))))
def mX11_abort : Nat := 0x2000000000000000010000000000000000000000000000000000000000000000000000000000000000000000000000000000000000000000000000000000003be1000000000000000000000000000000000000000000000000
theorem wX11_abort {M : Nat} {N : Nat} {x0 : Nat} {x1 : Int32} {x2 : Int32} {z0 z : St} (hM : mX11_abort &&& M = mX11_abort)  (h : zFr M z0 z) : zPw M z0 (fX11_abort N x0 x1 x2 z) := by
  unfold fX11_abort
  exact zw_c (wX11_doorOf (ztr rfl hM)  h) (fun r1 z2 h1 => zw_o (zw_s h1) (fun a6 => zw_i (zw_l (fun y8 => zw_d (fun a9 => zw_c (wX3_isDead (ztr rfl hM)  h1) (fun r10 z11 h2 => zw_i (zw_l (fun y15 => zw_d (fun a16 => zw_c (wX3_abortByOwner (ztr rfl hM)  h2) (fun _ z18 h3 => zw_c (wX11_stir (ztr rfl hM)  h3) (fun _ z22 h4 => zw_s h4))))) (zw_s h2))))) (zw_s h1)))
def mX11_door_34 : Nat := 0x0
theorem wX11_door_34 {M : Nat} {N : Nat} {z0 z : St} (hM : mX11_door_34 &&& M = mX11_door_34)  (h : zFr M z0 z) : zPw M z0 (fX11_door_34 N z) := by
  unfold fX11_door_34
  exact zw_s h
def mX11_door_59 : Nat := 0x0
theorem wX11_door_59 {M : Nat} {N : Nat} {x3 : Int32} {x4 : Nat} {s0 : Int32} {z0 z : St} (hM : mX11_door_59 &&& M = mX11_door_59)  (h : zFr M z0 z) : zPw M z0 (fX11_door_59 N x3 x4 s0 z) := by
  unfold fX11_door_59
  exact zw_i (zw_i (zw_i (zw_s h) (zw_s h)) (zw_l (fun y4 => zw_d (fun a5 => zw_s h)))) (zw_i (zw_s h) (zw_i (zw_s h) (zw_i (zw_s h) (zw_i (zw_i (zw_s h) (zw_l (fun y11 => zw_d (fun a12 => zw_l (fun y13 => zw_d (fun a14 => zw_s h)))))) (zw_i (zw_c (wX2_takesBytes (ztr rfl hM)  h) (fun r16 z17 h1 => zw_i (zw_s h1) (zw_l (fun y21 => zw_d (fun a22 => zw_l (fun y23 => zw_d (fun a24 => zw_s h1))))))) (zw_i (zw_s h) (zw_l (fun y26 => zw_d (fun a27 => zw_l (fun y28 => zw_d (fun a29 => zw_s h)))))))))))
def mX11_door : Nat := 0x0
theorem wX11_door {M : Nat} {N : Nat} {x0 : Nat} {x1 : Int32} {x2 : Int32} {x3 : Int32} {z0 z : St} (hM : mX11_door &&& M = mX11_door)  (h : zFr M z0 z) : zPw M z0 (fX11_door N x0 x1 x2 x3 z) := by
  unfold fX11_door
  exact zw_c (wX11_doorOf (ztr rfl hM)  h) (fun r1 z2 h1 => zw_o (zw_s h1) (fun a6 => zw_i (wX11_door_34 (ztr rfl hM)  h1) (zw_i (zw_i (wX11_door_59 (ztr rfl hM)  h1) (wX11_door_59 (ztr rfl hM)  h1)) (wX11_door_34 (ztr rfl hM)  h1))))
def mX11_drain : Nat := 0x10000000000000000000000000000000000
theorem wX11_drain {M : Nat} {N : Nat} {x0 : Nat} {x1 : Int32} {x2 : Int32} {x3 : Int32} {z0 z : St} (hM : mX11_drain &&& M = mX11_drain)  (h : zFr M z0 z) : zPw M z0 (fX11_drain N x0 x1 x2 x3 z) := by
  unfold fX11_drain
  exact zw_c (wX11_doorOf (ztr rfl hM)  h) (fun r1 z2 h1 => zw_o (zw_s h1) (fun a6 => zw_i (zw_q (zw_lI h1 (ztb hM rfl) (fun z8 h2 => zw_s h2))) (zw_s h1)))
def mX11_drained : Nat := 0x0
theorem wX11_drained {M : Nat} {N : Nat} {x0 : Nat} {x1 : Int32} {x2 : Int32} {z0 z : St} (hM : mX11_drained &&& M = mX11_drained)  (h : zFr M z0 z) : zPw M z0 (fX11_drained N x0 x1 x2 z) := by
  unfold fX11_drained
  exact zw_c (wX11_doorOf (ztr rfl hM)  h) (fun r1 z2 h1 => zw_o (zw_s h1) (fun a6 => zw_s h1))
def mX11_way_20 : Nat := 0x0
theorem wX11_way_20 {M : Nat} {N : Nat} {z0 z : St} (hM : mX11_way_20 &&& M = mX11_way_20)  (h : zFr M z0 z) : zPw M z0 (fX11_way_20 N z) := by
  unfold fX11_way_20
  exact zw_s h
def mX11_way_39 : Nat := 0x0
theorem wX11_way_39 {M : Nat} {N : Nat} {z0 z : St} (hM : mX11_way_39 &&& M = mX11_way_39)  (h : zFr M z0 z) : zPw M z0 (fX11_way_39 N z) := by
  unfold fX11_way_39
  exact zw_s h
def mX11_way : Nat := 0x0
theorem wX11_way {M : Nat} {N : Nat} {x0 : Nat} {x1 : Int32} {x2 : Int32} {x3 : Int32} {z0 z : St} (hM : mX11_way &&& M = mX11_way)  (h : zFr M z0 z) : zPw M z0 (fX11_way N x0 x1 x2 x3 z) := by
  unfold fX11_way
  exact zw_c (wX11_routerOf (ztr rfl hM)  h) (fun r1 z2 h1 => zw_o (wX11_way_20 (ztr rfl hM)  h1) (fun a6 => zw_c (wX11_netOf (ztr rfl hM)  h1) (fun r7 z8 h2 => zw_o (wX11_way_20 (ztr rfl hM)  h2) (fun a12 => zw_i (wX11_way_39 (ztr rfl hM)  h2) (zw_i (zw_l (fun y15 => zw_d (fun a16 => zw_l (fun y17 => zw_i (zw_i (zw_d (fun a20 => zw_k (zw_s h2))) (zw_d (fun a22 => zw_k (zw_s h2)))) (zw_d (fun a24 => zw_k (zw_s h2))))))) (wX11_way_39 (ztr rfl hM)  h2))))))
def mX11_friends_20 : Nat := 0x0
theorem wX11_friends_20 {M : Nat} {N : Nat} {z0 z : St} (hM : mX11_friends_20 &&& M = mX11_friends_20)  (h : zFr M z0 z) : zPw M z0 (fX11_friends_20 N z) := by
  unfold fX11_friends_20
  exact zw_s h
def mX11_friends : Nat := 0x0
theorem wX11_friends {M : Nat} {N : Nat} {x0 : Nat} {x1 : Int32} {x2 : Int32} {x3 : Int32} {z0 z : St} (hM : mX11_friends &&& M = mX11_friends)  (h : zFr M z0 z) : zPw M z0 (fX11_friends N x0 x1 x2 x3 z) := by
  unfold fX11_friends
  exact zw_c (wX11_routerOf (ztr rfl hM)  h) (fun r1 z2 h1 => zw_o (wX11_friends_20 (ztr rfl hM)  h1) (fun a6 => zw_c (wX11_routerOf (ztr rfl hM)  h1) (fun r7 z8 h2 => zw_o (wX11_friends_20 (ztr rfl hM)  h2) (fun a12 => zw_c (wX11_netOf (ztr rfl hM)  h2) (fun r13 z14 h3 => zw_o (zw_s h3) (fun a18 => zw_c (wX1_portOn (ztr rfl hM)  h3) (fun r19 z20 h4 => zw_o (zw_s h4) (fun a24 => zw_l (fun y25 => zw_d (fun a26 => zw_c (wX11_keyOf (ztr rfl hM)  h4) (fun r27 z28 h5 => zw_k (zw_i (zw_s h5) (zw_s h5)))))))))))))
def mX11_advert_18 : Nat := 0x0
theorem wX11_advert_18 {M : Nat} {N : Nat} {z0 z : St} (hM : mX11_advert_18 &&& M = mX11_advert_18)  (h : zFr M z0 z) : zPw M z0 (fX11_advert_18 N z) := by
  unfold fX11_advert_18
  exact zw_s h
def mX11_advert : Nat := 0x0
theorem wX11_advert {M : Nat} {N : Nat} {x0 : Nat} {x1 : Int32} {x2 : Int32} {z0 z : St} (hM : mX11_advert &&& M = mX11_advert)  (h : zFr M z0 z) : zPw M z0 (fX11_advert N x0 x1 x2 z) := by
  unfold fX11_advert
  exact zw_c (wX11_routerOf (ztr rfl hM)  h) (fun r1 z2 h1 => zw_o (wX11_advert_18 (ztr rfl hM)  h1) (fun a6 => zw_c (wX11_routerOf (ztr rfl hM)  h1) (fun r7 z8 h2 => zw_o (wX11_advert_18 (ztr rfl hM)  h2) (fun a12 => zw_l (fun y13 => zw_d (fun a14 => zw_l (fun y15 => zw_d (fun a16 => zw_k (zw_l (fun v18 => zw_i (zw_s h2) (zw_s h2)))))))))))
def mX11_count_10 : Nat := 0x0
theorem wX11_count_10 {M : Nat} {N : Nat} {z0 z : St} (hM : mX11_count_10 &&& M = mX11_count_10)  (h : zFr M z0 z) : zPw M z0 (fX11_count_10 N z) := by
  unfold fX11_count_10
  exact zw_s h
def mX11_count : Nat := 0x0
theorem wX11_count {M : Nat} {N : Nat} {x0 : Nat} {x1 : Int32} {x2 : Int32} {z0 z : St} (hM : mX11_count &&& M = mX11_count)  (h : zFr M z0 z) : zPw M z0 (fX11_count N x0 x1 x2 z) := by
  unfold fX11_count
  exact zw_i (wX11_count_10 (ztr rfl hM)  h) (zw_i (zw_i (zw_c (wX11_boxOf (ztr rfl hM)  h) (fun r4 z5 h1 => zw_o (zw_s h1) (fun a9 => zw_k (zw_s h1)))) (zw_c (wX11_netOf (ztr rfl hM)  h) (fun r11 z12 h2 => zw_o (zw_s h2) (fun a16 => zw_i (zw_s h2) (zw_s h2))))) (wX11_count_10 (ztr rfl hM)  h))
def mX11_shouldCost_22 : Nat := 0x0
theorem wX11_shouldCost_22 {M : Nat} {N : Nat} {z0 z : St} (hM : mX11_shouldCost_22 &&& M = mX11_shouldCost_22)  (h : zFr M z0 z) : zPw M z0 (fX11_shouldCost_22 N z) := by
  unfold fX11_shouldCost_22
  exact zw_s h
def mX11_shouldCost : Nat := 0x40000000000000000000000000000000000000000000000000000000000000000000000000000000000000000000000000000000000000000000000000000000000000000000000000000000000000000000000000000000000000000000000000000000000000000000000000000000000000000000000000000000000000000000000000000000000000000000000000000000000000000000000000000000000000000000
theorem wX11_shouldCost {M : Nat} {N : Nat} {x0 : Nat} {x1 : Int32} {x2 : Int32} {z0 z : St} (hM : mX11_shouldCost &&& M = mX11_shouldCost)  (h : zFr M z0 z) : zPw M z0 (fX11_shouldCost N x0 x1 x2 z) := by
  unfold fX11_shouldCost
  exact zw_c (wX11_routerOf (ztr rfl hM)  h) (fun r1 z2 h1 => zw_c (wX11_netOf (ztr rfl hM)  h1) (fun r5 z6 h2 => zw_o (wX11_shouldCost_22 (ztr rfl hM)  h2) (fun a10 => zw_o (wX11_shouldCost_22 (ztr rfl hM)  h2) (fun a12 => zw_c (wX11_costFromAbove (ztr rfl hM)  h2) (fun r13 z14 h3 => zw_s h3)))))
