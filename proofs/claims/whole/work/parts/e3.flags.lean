/-! what is sent off leaves an end's flags or takes them away -/
def zS3 (z z' : St) : Prop := ∀ e j, j = 0 ∨ j = 9 ∨ j = 11 ∨ j = 12 ∨ j = 13 → zgI z' 3 j e = zgI z 3 j e ∨ (¬ j = 0 ∧ zgI z' 3 j e = 0) ∨ (j = 0 ∧ zgI z' 3 j e = 11)
def zS3w {α : Type} (z0 : St) (x : Option (α × St)) : Prop := ∀ r z', x = some (r, z') → zS3 z0 z'
theorem zS3_rf (z : St) : zS3 z z := fun _ _ _ => Or.inl rfl
theorem zS3_tr {a b c : St} (h1 : zS3 a b) (h2 : zS3 b c) : zS3 a c := fun e j hj => by
  rcases h2 e j hj with y | y
  · rw [y]; exact h1 e j hj
  · exact Or.inr y
theorem zS3_fr {M : Nat} {a b : St} (f : zFr M a b) (hm : 0x3a01000000000000000000000000000000000000000000000000 &&& M = 0) : zS3 a b := fun e j hj => Or.inl (zFr_gI f (by omega) (ztf hm (by
  rcases hj with rfl | rfl | rfl | rfl | rfl <;> decide)) e)
section
variable {α β : Type} {z0 z : St}
theorem zS3_s {r : α} (h : zS3 z0 z) : zS3w z0 (some (r, z)) := fun r' z' e => by cases e; exact h
theorem zS3_l {e : β} {k : β → Option (α × St)} (h : ∀ x, zS3w z0 (k x)) : zS3w z0 (zl e k) := h e
theorem zS3_le {e : β} {k : β → Option (α × St)} (h : zS3w z0 (k e)) : zS3w z0 (zl e k) := h
theorem zS3_d {x : Option β} {K : β → Option (α × St)} (hh : ∀ a, zS3w z0 (K a)) : zS3w z0 (zd x K) := by
  cases x with
  | none => intro r z' e; cases e
  | some a => exact hh a
theorem zS3_k {i : Int32} {n : Nat} {k : Option (α × St)} (h : zS3w z0 k) : zS3w z0 (zk i n k) := by
  unfold zk
  split
  · intro r z' e; cases e
  · exact h
theorem zS3_i {c : Prop} [dc : Decidable c] {a b : Option (α × St)} (ha : zS3w z0 a) (hb : zS3w z0 b) : zS3w z0 (if c then a else b) := by
  split
  · exact ha
  · exact hb
theorem zS3_c {x : Option (β × St)} {K : β → St → Option (α × St)} (h : zS3w z0 x) (hh : ∀ r z1, zS3 z0 z1 → zS3w z0 (K r z1)) : zS3w z0 (zc x K) := fun r z' e => by
  obtain ⟨a, z1, e1, e2⟩ := zc_some e
  exact hh a z1 (h a z1 e1) r z' e2
theorem zS3_f {M : Nat} {x : Option (β × St)} (h : zS3 z0 z) (f : zPw M z x) (hm : 0x3a01000000000000000000000000000000000000000000000000 &&& M = 0) : zS3w z0 x := fun r z' e => zS3_tr h (zS3_fr (f r z' e) hm)
theorem zS3_A {k b i : Nat} {v : Int32} (h : zS3 z0 z) : zS3 z0 (zsA z k b i v) := zS3_tr h (fun _ _ _ => Or.inl rfl)
theorem zS3_I {j o : Nat} {v : Int32} (hv : (j = 0 ∧ v = 11) ∨ (¬ j = 0 ∧ v = 0)) (h : zS3 z0 z) : zS3 z0 (zsI z 3 j o v) := zS3_tr h (fun e j' hj => by
  rw [zgI_sI]
  by_cases c : 3 = 3 ∧ j' = j ∧ e = o
  · rw [if_pos c, c.2.1]
    rcases hv with ⟨a, b⟩ | ⟨a, b⟩
    · exact Or.inr (Or.inr ⟨a, b⟩)
    · exact Or.inr (Or.inl ⟨a, b⟩)
  · rw [if_neg c]; exact Or.inl rfl)
theorem zS3_Io {k j o : Nat} {v : Int32} (hk : ¬ k = 3) (h : zS3 z0 z) : zS3 z0 (zsI z k j o v) := zS3_tr h (fun e j' _ => Or.inl (by rw [zgI_sI, if_neg (fun y => hk y.1.symm)]))
end
theorem zS3_finish {N e : Nat} {z0 z : St} (h : zS3 z0 z) : zS3w z0 (fX3_finish N e 11 z) := by
  unfold fX3_finish
  have t : ∀ u, zS3 z0 u → zS3w z0 (fX3_finish_31 N e u) := fun u hu => by
    unfold fX3_finish_31
    exact zS3_le (zS3_d (fun a => zS3_le (zS3_s (zS3_Io (by omega) hu))))
  refine zS3_le (zS3_le (zS3_le (zS3_le (zS3_i (t _ ?_) (zS3_le (t _ ?_))))))
  · exact zS3_I (Or.inr ⟨by omega, rfl⟩) (zS3_I (Or.inr ⟨by omega, rfl⟩) (zS3_I (Or.inr ⟨by omega, rfl⟩) (zS3_I (Or.inl ⟨rfl, rfl⟩) h)))
  · exact zS3_I (Or.inr ⟨by omega, rfl⟩) (zS3_I (Or.inr ⟨by omega, rfl⟩) (zS3_I (Or.inr ⟨by omega, rfl⟩) (zS3_I (Or.inr ⟨by omega, rfl⟩) (zS3_I (Or.inl ⟨rfl, rfl⟩) h))))
theorem zS3_abort3 {N : Nat} {z0 : St} : ∀ (n : Nat) (x1 : Nat) (x2 x3 x4 x5 : Int32) (z : St), zS3 z0 z → zS3w z0 (fX11_abortAsking_3 N n x1 x2 x3 x4 x5 z) := by
  intro n
  induction n with
  | zero => intro x1 x2 x3 x4 x5 z h r z' e; cases e
  | succ n ih =>
    intro x1 x2 x3 x4 x5 z h
    have go : ∀ u, zS3 z0 u → zS3w z0 (fX11_abortAsking_56 N (fX11_abortAsking_3 N n) x1 x2 x3 x4 x5 u) := fun u hu => by
      unfold fX11_abortAsking_56
      exact zS3_le (ih _ _ _ _ _ _ hu)
    show zS3w z0 (fX11_abortAsking_3b N (fX11_abortAsking_3 N n) x1 x2 x3 x4 x5 z)
    unfold fX11_abortAsking_3b
    refine zS3_i (zS3_s h) (zS3_k (zS3_le (zS3_d (fun a => zS3_c (zS3_f h (wX2_isFor (Nat.and_self _) (zFr_rf _ _)) (by decide)) (fun r z1 h1 => zS3_i (go z1 h1) (zS3_le (zS3_d (fun c => zS3_i (go z1 h1) (zS3_le (zS3_d (fun d => zS3_c (zS3_finish h1) (fun _ z2 h2 => go z2 h2))))))))))))
theorem zS3_comeBack {N b x : Nat} {why : Int32} {z0 z : St} (h : zS3 z0 z) : zS3w z0 (fX11_comeBack N 0 b x why z) := by
  have t82 : ∀ s u, zS3 z0 u → zS3w z0 (fX11_comeBack_82 N 0 b x why s u) := fun s u hu => zS3_f hu (wX11_comeBack_82 (Nat.and_self _) (zFr_rf _ _)) (by decide)
  unfold fX11_comeBack
  refine zS3_i (zS3_s h) (zS3_i (zS3_c (zS3_f h (wX1_hasAddress (Nat.and_self _) (zFr_rf _ _)) (by decide)) (fun r z1 h1 => zS3_i (zS3_i (t82 _ _ h1) (zS3_k (zS3_le (t82 _ _ h1)))) (zS3_k (zS3_k (zS3_le (zS3_c (zS3_f (zS3_A h1) (wX7_get2 (Nat.and_self _) (zFr_rf _ _)) (by decide)) (fun r2 z2 h2 => zS3_c (zS3_f h2 (wX7_get2 (Nat.and_self _) (zFr_rf _ _)) (by decide)) (fun r3 z3 h3 => zS3_c (zS3_abort3 _ _ _ _ _ _ _ h3) (fun _ z4 h4 => zS3_s h4))))))))) (zS3_s h))
theorem zS3_sendOff {N b x : Nat} {z0 z : St} (h : zS3 z0 z) : zS3w z0 (fX11_sendOff N 0 b x z) := by
  have t28 : ∀ s u, zS3 z0 u → zS3w z0 (fX11_sendOff_28 N 0 b x s u) := fun s u hu => by
    unfold fX11_sendOff_28
    refine zS3_i (zS3_k (zS3_le (zS3_d (fun a => zS3_c (zS3_f hu (wX11_hand (Nat.and_self _) (zFr_rf _ _)) (by decide)) (fun _ z2 h2 => zS3_s h2))))) (zS3_c (zS3_comeBack hu) (fun _ z2 h2 => zS3_s h2))
  unfold fX11_sendOff
  exact zS3_i (zS3_c (zS3_f h (wX11_routeFromHost (Nat.and_self _) (zFr_rf _ _)) (by decide)) (fun r z1 h1 => t28 _ _ h1)) (zS3_c (zS3_f h (wX11_routeFromRouter (Nat.and_self _) (zFr_rf _ _)) (by decide)) (fun r z1 h1 => t28 _ _ h1))
