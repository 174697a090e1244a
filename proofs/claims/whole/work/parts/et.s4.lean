/-! what is sent back aborts who asks, and no other end -/
def zS4e (z z' : St) (e : Nat) : Prop := ((∀ j, j = 0 ∨ j = 9 ∨ j = 11 ∨ j = 12 ∨ j = 13 → zgI z' 3 j e = zgI z 3 j e) ∧ zgI z' 10 0 e = zgI z 10 0 e) ∨ (zgI z 3 0 e = 2 ∧ zgI z' 3 0 e = 11 ∧ (∀ j, j = 9 ∨ j = 11 ∨ j = 12 ∨ j = 13 → zgI z' 3 j e = 0) ∧ zgI z' 10 0 e = 0)
def zS4 (T : Tp) (z z' : St) : Prop := (∀ e, hEnd T e → zS4e z z' e) ∧ zTC z' T
def zS4w {α : Type} (T : Tp) (z0 : St) (x : Option (α × St)) : Prop := ∀ r z', x = some (r, z') → zS4 T z0 z'
theorem zS4e_rf (z : St) (e : Nat) : zS4e z z e := Or.inl ⟨fun _ _ => rfl, rfl⟩
theorem zS4e_tr {x y z : St} {e : Nat} (h1 : zS4e x y e) (h2 : zS4e y z e) : zS4e x z e := by
  rcases h1 with ⟨a1, a2⟩ | ⟨a1, a2, a3, a4⟩
  · rcases h2 with ⟨b1, b2⟩ | ⟨b1, b2, b3, b4⟩
    · exact Or.inl ⟨fun j hj => (b1 j hj).trans (a1 j hj), b2.trans a2⟩
    · exact Or.inr ⟨(a1 0 (by simp)).symm.trans b1, b2, b3, b4⟩
  · rcases h2 with ⟨b1, b2⟩ | ⟨b1, b2, b3, b4⟩
    · exact Or.inr ⟨a1, (b1 0 (by simp)).trans a2, fun j hj => (b1 j (by omega)).trans (a3 j hj), b2.trans a4⟩
    · rw [a2] at b1; exact absurd b1 (by decide)
def mS4 : Nat := 0x10000000000000000000000000000000000000000000000000000000000000000000000000000000000000000000000000000000000003a01000000000000000000000000000000000000000000000000
theorem zS4e_fr {M : Nat} {z z' : St} (f : zFr M z z') (hm : mS4 &&& M = 0) (e : Nat) : zS4e z z' e := by
  refine Or.inl ⟨fun j hj => ?_, zFr_gI f (by decide) (ztf hm (by decide)) e⟩
  rcases hj with rfl | rfl | rfl | rfl | rfl <;> exact zFr_gI f (by decide) (ztf hm (by decide)) e
section
variable {α β : Type} {T : Tp} {z0 z : St}
theorem zS4_rf (h : zTC z T) : zS4 T z z := ⟨fun e _ => zS4e_rf z e, h⟩
theorem zS4_tr {x y z : St} (h1 : zS4 T x y) (h2 : zS4 T y z) : zS4 T x z := ⟨fun e he => zS4e_tr (h1.1 e he) (h2.1 e he), h2.2⟩
theorem zS4_fr {M : Nat} {z z' : St} (h : zS4 T z0 z) (f : zFr M z z') (hm : mS4 &&& M = 0) (ht : mTC &&& M = 0) : zS4 T z0 z' := ⟨fun e he => zS4e_tr (h.1 e he) (zS4e_fr f hm e), zTC_fr f ht h.2⟩
theorem zS4_s {r : α} (h : zS4 T z0 z) : zS4w T z0 (some (r, z)) := fun r' z' e => by cases e; exact h
theorem zS4_l {e : β} {k : β → Option (α × St)} (h : zS4w T z0 (k e)) : zS4w T z0 (zl e k) := h
theorem zS4_d {x : Option β} {K : β → Option (α × St)} (hh : ∀ a, x = some a → zS4w T z0 (K a)) : zS4w T z0 (zd x K) := by
  cases x with
  | none => intro r z' e; cases e
  | some a => exact hh a rfl
theorem zS4_k {i : Int32} {n : Nat} {k : Option (α × St)} (h : zS4w T z0 k) : zS4w T z0 (zk i n k) := fun r z' e => h r z' (zk_sm e)
theorem zS4_i {c : Prop} [dc : Decidable c] {a b : Option (α × St)} (ha : c → zS4w T z0 a) (hb : ¬ c → zS4w T z0 b) : zS4w T z0 (if c then a else b) := by
  by_cases q : c
  · rw [if_pos q]; exact ha q
  · rw [if_neg q]; exact hb q
theorem zS4_c {x : Option (β × St)} {K : β → St → Option (α × St)} (h : zS4w T z0 x) (hh : ∀ r z1, zS4 T z0 z1 → zS4w T z0 (K r z1)) : zS4w T z0 (zc x K) := by
  cases x with
  | none => intro r z' e; cases e
  | some v => obtain ⟨a, z1⟩ := v; exact hh a z1 (h a z1 rfl)
theorem zS4_f {M : Nat} {x : Option (β × St)} (h : zS4 T z0 z) (f : zPw M z x) (hm : mS4 &&& M = 0) (ht : mTC &&& M = 0) : zS4w T z0 x := fun r z' e => zS4_fr h (f r z' e) hm ht
end
theorem zS4_abort {T : Tp} {b N : Nat} {peer own pp : Int32} {z0 : St} (hc : zTc T) (hb : b < tb T) : ∀ (m d n : Nat) (z : St), d + m = 6 → zS4 T z0 z → zS4w T z0 (fX11_abortAsking_3 N n b peer own pp (Int32.ofNat d) z) := by
  intro m
  induction m with
  | zero =>
    intro d n z hd h
    cases n with
    | zero => intro r z' e; cases e
    | succ n =>
      obtain rfl : d = 6 := by omega
      show zS4w T z0 (fX11_abortAsking_3b N (fX11_abortAsking_3 N n) b peer own pp (Int32.ofNat 6) z)
      unfold fX11_abortAsking_3b
      rw [zlen_h h.2 hb]
      have c : Int32.ofNat (if tr T b = true then 0 else 6) ≤ Int32.ofNat 6 := by cases tr T b <;> decide
      rw [if_pos c]
      exact zS4_s h
  | succ m ih =>
    intro d n z hd h
    cases n with
    | zero => intro r z' e; cases e
    | succ n =>
      have go : ∀ u, zS4 T z0 u → zS4w T z0 (fX11_abortAsking_56 N (fX11_abortAsking_3 N n) b peer own pp (Int32.ofNat d) u) := fun u hu => by
        unfold fX11_abortAsking_56
        rw [zl_e, zo_i1]
        exact ih (d + 1) n u (by omega) hu
      show zS4w T z0 (fX11_abortAsking_3b N (fX11_abortAsking_3 N n) b peer own pp (Int32.ofNat d) z)
      unfold fX11_abortAsking_3b
      refine zS4_i (fun _ => zS4_s h) (fun c => ?_)
      have hr : tr T b = false := by
        cases q : tr T b with
        | false => rfl
        | true => rw [zlen_h h.2 hb, q] at c; exact absurd (by rw [if_pos rfl]; exact zo_ge (by omega)) c
      obtain ⟨t1, t2, -, -, t5⟩ := h.2.2.2.1.2 b hb hr d (by omega)
      have he : hEnd T (6 * b + d) := by
        have e6 : (6 * b + d) / 6 = b := by omega
        have := hc.1
        exact ⟨by omega, by rw [e6]; exact hb, by rw [e6]; exact hr⟩
      refine zS4_k (zS4_l (zS4_d (fun a ha => ?_)))
      rw [zoC (by omega), t1] at ha
      obtain rfl : 6 * b + d = a := Option.some.inj ha
      refine zS4_c (zS4_f h (wX2_isFor (Nat.and_self _) (zFr_rf _ _)) (by decide) (by decide)) (fun r z1 h1 => zS4_i (fun _ => go z1 h1) (fun _ => zS4_l (zS4_d (fun a ha => ?_))))
      obtain ⟨-, u2, -, -, u5⟩ := h1.2.2.2.1.2 b hb hr d (by omega)
      rw [u2] at ha
      obtain rfl : 6 * b + d = a := Option.some.inj ha
      refine zS4_i (fun _ => go z1 h1) (fun c2 => zS4_l (zS4_d (fun a ha => ?_)))
      rw [u2] at ha
      obtain rfl : 6 * b + d = a := Option.some.inj ha
      have c2 : zgI z1 3 0 (6 * b + d) = 2 := Classical.not_not.mp c2
      rw [zc_finish11 u5]
      refine zS4_c (zS4_s ?_) (fun _ z2 h2 => go z2 h2)
      refine ⟨fun e he' => zS4e_tr (h1.1 e he') ?_, zTC_fr (M := mS4) (zFr_I (zFr_I (zFr_I (zFr_I (zFr_I (zFr_I (zFr_rf _ _) (by decide)) (by decide)) (by decide)) (by decide)) (by decide)) (by decide)) (by decide) h1.2⟩
      by_cases q : e = 6 * b + d
      · subst q
        refine Or.inr ⟨c2, by simp [zgI_sI], fun j hj => ?_, by simp [zgI_sI]⟩
        rcases hj with rfl | rfl | rfl | rfl <;> simp [zgI_sI]
      · exact Or.inl ⟨fun j hj => by simp [zgI_sI, q], by simp [zgI_sI, q]⟩
section
variable {T : Tp} {z0 z : St} {N b x : Nat}
theorem zS4_comeBack {why : Int32} (hc : zTc T) (hb : b < tb T) (h : zS4 T z0 z) : zS4w T z0 (fX11_comeBack N 0 b x why z) := by
  have t82 : ∀ s u, zS4 T z0 u → zS4w T z0 (fX11_comeBack_82 N 0 b x why s u) := fun s u hu => zS4_f hu (wX11_comeBack_82 (Nat.and_self _) (zFr_rf _ _)) (by decide) (by decide)
  unfold fX11_comeBack
  refine zS4_i (fun _ => zS4_s h) (fun _ => zS4_i (fun _ => zS4_c (zS4_f h (wX1_hasAddress (Nat.and_self _) (zFr_rf _ _)) (by decide) (by decide)) (fun r z1 h1 => zS4_i (fun _ => zS4_i (fun _ => t82 _ _ h1) (fun _ => zS4_k (zS4_l (t82 _ _ h1)))) (fun _ => zS4_k (zS4_k (zS4_l ?_))))) (fun _ => zS4_s h))
  have h1a : zS4 T z0 (zsA z1 113 b (Int32.toNatClampNeg (7 : Int32)) (zgA z1 113 b (Int32.toNatClampNeg (7 : Int32)) + 1)) := zS4_fr (M := 0x200000000000000000000000000000000000000000000000000000000000000000000000000000000000000000000000000000000000000000000000000000000000000000000000000000000000000000000000000000000000000000000000000000000000000000000000000000000000000000000000000000000000000000000000000000000000000000000000000000000000000000000000000000000000) h1 (zFr_A (zFr_rf _ _) (by decide)) (by decide) (by decide)
  refine zS4_c (zS4_f h1a (wX7_get2 (Nat.and_self _) (zFr_rf _ _)) (by decide) (by decide)) (fun r2 z2 h2 => zS4_c (zS4_f h2 (wX7_get2 (Nat.and_self _) (zFr_rf _ _)) (by decide) (by decide)) (fun r3 z3 h3 => zS4_c ?_ (fun _ z4 h4 => zS4_s h4)))
  unfold fX11_abortAsking
  exact zS4_abort hc hb 6 0 N z3 (by omega) h3
theorem zS4_sendOff (hc : zTc T) (hb : b < tb T) (h : zS4 T z0 z) : zS4w T z0 (fX11_sendOff N 0 b x z) := by
  have t28 : ∀ s u, zS4 T z0 u → zS4w T z0 (fX11_sendOff_28 N 0 b x s u) := fun s u hu => by
    unfold fX11_sendOff_28
    refine zS4_i (fun _ => zS4_k (zS4_l (zS4_d (fun a _ => zS4_c (zS4_f hu (wX11_hand (Nat.and_self _) (zFr_rf _ _)) (by decide) (by decide)) (fun _ z2 h2 => zS4_s h2))))) (fun _ => zS4_c (zS4_comeBack hc hb hu) (fun _ z2 h2 => zS4_s h2))
  unfold fX11_sendOff
  exact zS4_i (fun _ => zS4_c (zS4_f h (wX11_routeFromHost (Nat.and_self _) (zFr_rf _ _)) (by decide) (by decide)) (fun r z1 h1 => t28 _ _ h1)) (fun _ => zS4_c (zS4_f h (wX11_routeFromRouter (Nat.and_self _) (zFr_rf _ _)) (by decide) (by decide)) (fun r z1 h1 => t28 _ _ h1))
theorem zS4_forward {q : Nat} (hc : zTc T) (hq : tv T q) (h : zS4 T z0 z) : zS4w T z0 (fX11_forward N 0 q x z) := by
  have hb := (hc.2.2.2.2.2.1 q hq).1
  unfold fX11_forward
  rw [(h.2.2.2.2 q hq).1]
  refine zS4_l (zS4_l (zS4_l ?_))
  have h1 : zS4 T z0 (zsI (zsI z 7 10 x (zgI z 8 2 q)) 7 4 x (zgI (zsI z 7 10 x (zgI z 8 2 q)) 7 4 x - 1)) := zS4_fr (M := 0x4100000000000000000000000000000000000000000000000000000000000000000000000000000000000000000000000000000000000000000) h (zFr_I (zFr_I (zFr_rf _ _) (by decide)) (by decide)) (by decide) (by decide)
  refine zS4_i (fun _ => zS4_d (fun a ha => ?_)) (fun _ => zS4_d (fun a ha => ?_))
  · obtain rfl : tw T q = a := Option.some.inj ha
    refine zS4_c (zS4_f h1 (wX11_routeFromRouter (Nat.and_self _) (zFr_rf _ _)) (by decide) (by decide)) (fun r z2 h2 => zS4_i (fun _ => zS4_k (zS4_k (zS4_l (zS4_k (zS4_l (zS4_d (fun c _ => ?_))))))) (fun _ => zS4_c (zS4_comeBack hc hb h2) (fun _ z3 h3 => zS4_s h3)))
    have h3 : zS4 T z0 (zsA z2 113 (tw T q) (Int32.toNatClampNeg (4 : Int32)) (zgA z2 113 (tw T q) (Int32.toNatClampNeg (4 : Int32)) + 1)) := zS4_fr (M := 0x200000000000000000000000000000000000000000000000000000000000000000000000000000000000000000000000000000000000000000000000000000000000000000000000000000000000000000000000000000000000000000000000000000000000000000000000000000000000000000000000000000000000000000000000000000000000000000000000000000000000000000000000000000000000) h2 (zFr_A (zFr_rf _ _) (by decide)) (by decide) (by decide)
    exact zS4_c (zS4_f h3 (wX11_hand (Nat.and_self _) (zFr_rf _ _)) (by decide) (by decide)) (fun _ z4 h4 => zS4_s h4)
  · obtain rfl : tw T q = a := Option.some.inj ha
    exact zS4_c (zS4_comeBack hc hb h1) (fun _ z3 h3 => zS4_s h3)
theorem zS4_errorCame (hc : zTc T) (hb : b < tb T) (h : zS4 T z0 z) : zS4w T z0 (fX11_errorCame N 0 b x z) := by
  unfold fX11_errorCame
  refine zS4_k (zS4_k (zS4_l ?_))
  have h1 : zS4 T z0 (zsA z 113 b (Int32.toNatClampNeg (7 : Int32)) (zgA z 113 b (Int32.toNatClampNeg (7 : Int32)) + 1)) := zS4_fr (M := 0x200000000000000000000000000000000000000000000000000000000000000000000000000000000000000000000000000000000000000000000000000000000000000000000000000000000000000000000000000000000000000000000000000000000000000000000000000000000000000000000000000000000000000000000000000000000000000000000000000000000000000000000000000000000000) h (zFr_A (zFr_rf _ _) (by decide)) (by decide) (by decide)
  refine zS4_i (fun _ => zS4_s h1) (fun _ => zS4_c (zS4_f h1 (wX7_get4 (Nat.and_self _) (zFr_rf _ _)) (by decide) (by decide)) (fun r2 z2 h2 => zS4_c (zS4_f h2 (wX1_hasAddress (Nat.and_self _) (zFr_rf _ _)) (by decide) (by decide)) (fun r3 z3 h3 => zS4_i (fun _ => zS4_s h3) (fun _ => zS4_c (zS4_f h3 (wX7_get4 (Nat.and_self _) (zFr_rf _ _)) (by decide) (by decide)) (fun r4 z4 h4 => zS4_c (zS4_f h4 (wX7_get2 (Nat.and_self _) (zFr_rf _ _)) (by decide) (by decide)) (fun r5 z5 h5 => zS4_c (zS4_f h5 (wX7_get2 (Nat.and_self _) (zFr_rf _ _)) (by decide) (by decide)) (fun r6 z6 h6 => zS4_c ?_ (fun _ z7 h7 => zS4_s h7))))))))
  unfold fX11_abortAsking
  exact zS4_abort hc hb 6 0 N z6 (by omega) h6
end
