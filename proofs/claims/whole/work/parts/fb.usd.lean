/-! how much an end has not sent yet: what comes to it never makes it more -/
/-- of every outcome P is so -/
def zHq {α : Type} (P : St → Prop) (x : Option (α × St)) : Prop := ∀ r z', x = some (r, z') → P z'
section
variable {α β : Type} {P Q : St → Prop} {z : St}
theorem zHq_s {r : α} (h : P z) : zHq P (some (r, z)) := fun r' z' e => by cases e; exact h
theorem zHq_l {e : β} {k : β → Option (α × St)} (h : zHq P (k e)) : zHq P (zl e k) := h
theorem zHq_d {x : Option β} {K : β → Option (α × St)} (hh : ∀ a, x = some a → zHq P (K a)) : zHq P (zd x K) := by
  cases x with
  | none => intro r z' e; cases e
  | some a => exact hh a rfl
theorem zHq_o {x : Option β} {a : Option (α × St)} {K : β → Option (α × St)} (ha : x = none → zHq P a) (hh : ∀ i, x = some i → zHq P (K i)) : zHq P (zo x a K) := by
  cases x with
  | none => exact ha rfl
  | some i => exact hh i rfl
theorem zHq_k {i : Int32} {n : Nat} {k : Option (α × St)} (h : zHq P k) : zHq P (zk i n k) := fun r z' e => h r z' (zk_sm e)
theorem zHq_i {c : Prop} [dc : Decidable c] {a b : Option (α × St)} (ha : c → zHq P a) (hb : ¬ c → zHq P b) : zHq P (if c then a else b) := by
  by_cases q : c
  · rw [if_pos q]; exact ha q
  · rw [if_neg q]; exact hb q
theorem zHq_c {x : Option (β × St)} {K : β → St → Option (α × St)} (h : zHq Q x) (hh : ∀ r z1, x = some (r, z1) → Q z1 → zHq P (K r z1)) : zHq P (zc x K) := by
  cases x with
  | none => intro r z' e; cases e
  | some v => obtain ⟨a, z1⟩ := v; exact hh a z1 rfl (h a z1 rfl)
end
theorem zsub3 (a b v : Int32) : a - v - (b - v) = a - b := by
  rw [Int32.sub_eq_add_neg (a - v) (b - v), Int32.neg_sub, Int32.sub_eq_add_neg v b, ← Int32.add_assoc, Int32.sub_add_cancel, ← Int32.sub_eq_add_neg]
/-- what an end has not sent, as the class counts -/
def dUs (z : St) (e : Nat) : Int32 := zgI z 6 2 e - zgI z 6 3 e
def zUd (z0 z : St) : Prop := ∀ u, dUs z u = dUs z0 u ∨ dUs z u = 0
theorem zUd_rf (z : St) : zUd z z := fun _ => Or.inl rfl
theorem zUd_tr {x y z : St} (h1 : zUd x y) (h2 : zUd y z) : zUd x z := fun u => by
  rcases h2 u with h | h
  · rcases h1 u with q | q
    · exact Or.inl (h.trans q)
    · exact Or.inr (h.trans q)
  · exact Or.inr h
theorem zUd_eq {z0 z z' : St} (h : zUd z0 z) (h2 : ∀ u, zgI z' 6 2 u = zgI z 6 2 u) (h3 : ∀ u, zgI z' 6 3 u = zgI z 6 3 u) : zUd z0 z' := fun u => by
  unfold dUs; rw [h2, h3]; exact h u
theorem zUd_fr {M : Nat} {z0 z z' : St} (h : zUd z0 z) (f : zFr M z z') (hm : 0xc000000000000000000000000000000000000000000000000000000000000000000000000000000000000000000000000 &&& M = 0) : zUd z0 z' := zUd_eq h (zFr_gI f (by decide) (ztf hm (by decide))) (zFr_gI f (by decide) (ztf hm (by decide)))
theorem zUd_I {z0 z : St} {k j o : Nat} {v : Int32} (h : zUd z0 z) (n : ¬ (k = 6 ∧ (j = 2 ∨ j = 3))) : zUd z0 (zsI z k j o v) := zUd_eq h (fun u => by rw [zgI_sI, if_neg (by omega)]) (fun u => by rw [zgI_sI, if_neg (by omega)])
theorem zUd_f {M : Nat} {α : Type} {z0 z : St} {x : Option (α × St)} (h : zUd z0 z) (f : zPw M z x) (hm : 0xc000000000000000000000000000000000000000000000000000000000000000000000000000000000000000000000000 &&& M = 0) : zHq (zUd z0) x := fun r z' e => zUd_fr h (f r z' e) hm
theorem zUd_thankTo27 {N e : Nat} {v : Int32} {z0 z : St} (h : zUd z0 z) : zHq (zUd z0) (fX6_thankTo_27 N e v z) := by
  unfold fX6_thankTo_27
  refine zHq_l ?_
  generalize (if (0 : Int32) < (if (zgI z 6 3 e) < v then (zgI z 6 3 e) else v) then (if (zgI z 6 3 e) < v then (zgI z 6 3 e) else v) else (0 : Int32)) = v1
  refine zHq_l (zHq_l (zHq_l ?_))
  have h4 : zUd z0 (zsI (zsI (zsI z 6 1 e (((zgI z 6 1 e) + v1) &&& (2047 : Int32))) 6 2 e (zgI (zsI z 6 1 e (((zgI z 6 1 e) + v1) &&& (2047 : Int32))) 6 2 e - v1)) 6 3 e (zgI (zsI (zsI z 6 1 e (((zgI z 6 1 e) + v1) &&& (2047 : Int32))) 6 2 e (zgI (zsI z 6 1 e (((zgI z 6 1 e) + v1) &&& (2047 : Int32))) 6 2 e - v1)) 6 3 e - v1)) := fun u => by
    unfold dUs
    by_cases c : u = e
    · subst c
      rw [zgI_sI, if_neg (by omega), zgI_sI, if_pos ⟨rfl, rfl, rfl⟩, zgI_sI, if_neg (by omega), zgI_sI, if_pos ⟨rfl, rfl, rfl⟩, zgI_sI, if_neg (by omega), zgI_sI, if_neg (by omega)]
      have e1 : zgI z 6 2 u - v1 - (zgI z 6 3 u - v1) = zgI z 6 2 u - zgI z 6 3 u := zsub3 _ _ _
      rw [e1]; exact h u
    · rw [zgI_sI, if_neg (by omega), zgI_sI, if_neg (by omega), zgI_sI, if_neg (by omega), zgI_sI, if_neg (by omega), zgI_sI, if_neg (by omega), zgI_sI, if_neg (by omega)]; exact h u
  exact zHq_i (fun _ => zHq_s h4) (fun _ => zHq_i (fun _ => zHq_s h4) (fun _ => zHq_l (zHq_s (zUd_I h4 (by omega)))))
theorem zUd_thankTo {N e : Nat} {v : Int32} {z0 z : St} (h : zUd z0 z) : zHq (zUd z0) (fX6_thankTo N e v z) := by
  unfold fX6_thankTo
  refine zHq_l (zHq_l (zHq_i (fun _ => zUd_thankTo27 (zUd_I h (by omega))) (fun _ => zHq_l (zHq_l (zUd_thankTo27 (zUd_I (zUd_I h (by omega)) (by omega)))))))
theorem zUd_thankedTo {N e : Nat} {x y : Int32} {z0 z : St} (h : zUd z0 z) : zHq (zUd z0) (fX3_thankedTo N e x y z) := by
  unfold fX3_thankedTo
  refine zHq_l (zHq_d fun a _ => zHq_c (zUd_thankTo h) fun _ z4 _ h4 => zHq_l (zHq_d fun a8 _ => zHq_c (zUd_f h4 (wX10_thanked (Nat.and_self _) (zFr_rf _ _)) (by decide)) fun _ z10 _ h10 => zHq_l (zHq_l (zHq_d fun a15 _ => zHq_c (zUd_f h10 (wX6_hasUnthanked (Nat.and_self _) (zFr_rf _ _)) (by decide)) fun _ z17 _ h17 => zHq_i (fun _ => zUd_f h17 (wX3_thankedTo_44 (Nat.and_self _) (zFr_rf _ _)) (by decide)) fun _ => zHq_l (zHq_d fun _ _ => zUd_f h17 (wX3_thankedTo_44 (Nat.and_self _) (zFr_rf _ _)) (by decide))))))
theorem zUd_begin6 {N e : Nat} {v : Int32} {z0 z : St} (h : zUd z0 z) : zHq (zUd z0) (fX6_begin N e v z) := by
  unfold fX6_begin
  intro r z' q
  have q : some ((0 : Int32), zsI (zsI (zsI (zsI (zsI (zsI (zsI (zsI (zsI (zsI (zsI (zsI (zsI z 6 1 e 0) 6 2 e 0) 6 3 e 0) 6 4 e v) 6 5 e v) 6 6 e v) 6 7 e 0) 6 8 e 0) 6 9 e 0) 6 10 e 0) 6 11 e 0) 6 12 e 0) 6 13 e 0) = some (r, z') := q
  have q := (Prod.mk.inj (Option.some.inj q)).2
  intro u
  rw [← q]
  by_cases c : u = e
  · subst c
    right
    unfold dUs
    simp [zgI_sI]
  · have : dUs (zsI (zsI (zsI (zsI (zsI (zsI (zsI (zsI (zsI (zsI (zsI (zsI (zsI z 6 1 e 0) 6 2 e 0) 6 3 e 0) 6 4 e v) 6 5 e v) 6 6 e v) 6 7 e 0) 6 8 e 0) 6 9 e 0) 6 10 e 0) 6 11 e 0) 6 12 e 0) 6 13 e 0) u = dUs z u := by
      unfold dUs
      simp [zgI_sI, c]
    rw [this]; exact h u
theorem zUd_beginAgain {N e : Nat} {v : Int32} {z0 z : St} (h : zUd z0 z) : zHq (zUd z0) (fX3_beginAgain N e v z) := by
  unfold fX3_beginAgain
  refine zHq_l (zHq_l (zHq_l (zHq_l (zHq_l (zHq_l (zHq_l (zHq_l (zHq_l (zHq_l (zHq_d fun a _ => zHq_c (zUd_begin6 (zUd_I (zUd_I (zUd_I (zUd_I (zUd_I (zUd_I (zUd_I (zUd_I (zUd_I h (by omega)) (by omega)) (by omega)) (by omega)) (by omega)) (by omega)) (by omega)) (by omega)) (by omega))) fun _ z13 _ h13 => zHq_l (zHq_d fun _ _ => zHq_c (zUd_f h13 (wX4_begin (Nat.and_self _) (zFr_rf _ _)) (by decide)) fun _ z19 _ h19 => zHq_l (zHq_d fun _ _ => zHq_c (zUd_f h19 (wX10_begin (Nat.and_self _) (zFr_rf _ _)) (by decide)) fun _ z25 _ h25 => zHq_s h25))))))))))))
theorem zUd_takeReset {N e : Nat} {z0 z : St} (h : zUd z0 z) : zHq (zUd z0) (fX3_takeReset N e z) := by
  unfold fX3_takeReset
  have h29 : zHq (zUd z0) (fX3_takeReset_29 N e z) := zUd_f h (wX3_takeReset_29 (Nat.and_self _) (zFr_rf _ _)) (by decide)
  refine zHq_i (fun _ => h29) (fun _ => zHq_i (fun _ => h29) (fun _ => zHq_l (zHq_d fun _ _ => zHq_c (zUd_beginAgain h) fun _ _ _ h6 => zHq_s h6)))
theorem zUd_goesOn {N e x : Nat} {y : Int32} {z0 z : St} (h : zUd z0 z) : zHq (zUd z0) (fX3_goesOn N e x y z) := by
  unfold fX3_goesOn
  have b7 : ∀ {v : Int32} {u : St}, zUd z0 u → zHq (zUd z0) (fX7_has N x v u) := fun hu => zUd_f hu (wX7_has (Nat.and_self _) (zFr_rf _ _)) (by decide)
  have g31 : ∀ {u : St}, zUd z0 u → zHq (zUd z0) (fX3_goesOn_31 N e x y u) := fun hu => zUd_f hu (wX3_goesOn_31 (Nat.and_self _) (zFr_rf _ _)) (by decide)
  have g166 : ∀ {v : Int32} {u : St}, zUd z0 u → zHq (zUd z0) (fX3_goesOn_166 N e e v u) := fun hu => zUd_f hu (wX3_goesOn_166 (Nat.and_self _) (zFr_rf _ _)) (by decide)
  refine zHq_l (zHq_c (zUd_f h (wX7_size (Nat.and_self _) (zFr_rf _ _)) (by decide)) fun _ z3 _ h3 => zHq_d fun _ _ => zHq_c (zUd_f h3 (wX4_fits (Nat.and_self _) (zFr_rf _ _)) (by decide)) fun _ z8 _ h8 => zHq_i (fun _ => ?_) (fun _ => ?_))
  · refine zHq_c (b7 h8) fun _ z13 _ h13 => zHq_i (fun _ => ?_) (fun _ => ?_)
    · refine zHq_c (b7 h13) fun _ z18 _ h18 => zHq_i (fun _ => ?_) (fun _ => ?_)
      · refine zHq_c (b7 h18) fun _ z23 _ h23 => zHq_i (fun _ => ?_) (fun _ => zHq_s h23)
        refine zHq_i (fun _ => ?_) (fun _ => ?_)
        · refine zHq_l (zHq_d fun _ _ => zHq_c (zUd_f h23 (wX11_isBefore (Nat.and_self _) (zFr_rf _ _)) (by decide)) fun _ z31 _ h31 => zHq_i (fun _ => zHq_s h31) (fun _ => zHq_l (zHq_s (zUd_I h31 (by omega)))))
        · refine zHq_l (zHq_d fun _ _ => zHq_i (fun _ => ?_) (fun _ => ?_))
          · exact zHq_l (zHq_d fun _ _ => zHq_i (fun _ => g166 h23) (fun _ => g166 h23))
          · exact zHq_c (zUd_f h23 (wX3_resets (Nat.and_self _) (zFr_rf _ _)) (by decide)) fun _ _ _ h43 => zHq_s h43
      · exact zHq_l (zHq_s (zUd_I h18 (by omega)))
    · refine zHq_l (zHq_d fun _ _ => zHq_i (fun _ => zHq_l (zHq_s (zUd_I h13 (by omega)))) (fun _ => zHq_c (zUd_takeReset h13) fun _ _ _ h52 => zHq_s h52))
  · refine zHq_c (b7 h8) fun _ z56 _ h56 => zHq_i (fun _ => g31 h56) (fun _ => zHq_l (g31 (zUd_I h56 (by omega))))
theorem zUd_takeRest {N e x : Nat} {y : Int32} {z0 z : St} (h : zUd z0 z) : zHq (zUd z0) (fX3_takeRest N e x y z) := by
  have r25 : ∀ {v : Int32} {u : St}, zUd z0 u → zHq (zUd z0) (fX3_takeRest_25 N e x y v u) := fun hu => zUd_f hu (wX3_takeRest_25 (Nat.and_self _) (zFr_rf _ _)) (by decide)
  unfold fX3_takeRest
  exact zHq_l (zHq_l (zHq_d fun _ _ => zHq_c (zUd_f h (wX11_isBefore (Nat.and_self _) (zFr_rf _ _)) (by decide)) fun _ z5 _ h5 => zHq_i (fun _ => r25 h5) (fun _ => zHq_c (zUd_thankedTo h5) fun _ _ _ h10 => r25 h10)))
theorem zUd_takeAsking {N e x : Nat} {y : Int32} {z0 z : St} (h : zUd z0 z) : zHq (zUd z0) (fX3_takeAsking N e x y z) := by
  have b7 : ∀ {v : Int32} {u : St}, zUd z0 u → zHq (zUd z0) (fX7_has N x v u) := fun hu => zUd_f hu (wX7_has (Nat.and_self _) (zFr_rf _ _)) (by decide)
  have a31 : ∀ {v : Int32} {u : St}, zUd z0 u → zHq (zUd z0) (fX3_takeAsking_31 N e x y v u) := fun {v u} hu => by
    unfold fX3_takeAsking_31
    refine zHq_c (b7 hu) fun _ z2 _ h2 => zHq_i (fun _ => ?_) (fun _ => zHq_i (fun _ => zHq_s h2) (fun _ => zHq_c (zUd_f h2 (wX3_finish (Nat.and_self _) (zFr_rf _ _)) (by decide)) fun _ _ _ h27 => zHq_s h27))
    refine zHq_c (b7 h2) fun _ z7 _ h7 => zHq_i (fun _ => ?_) (fun _ => zHq_s h7)
    refine zHq_c (zUd_f h7 (wX3_takeOpen (Nat.and_self _) (zFr_rf _ _)) (by decide)) fun _ z12 _ h12 => zHq_i (fun _ => zHq_l (zHq_l (zHq_s (zUd_I (zUd_I h12 (by omega)) (by omega))))) (fun _ => zHq_l (zHq_l (zHq_c (zUd_thankedTo (zUd_I (zUd_I h12 (by omega)) (by omega))) fun _ _ _ h21 => zHq_l (zHq_s (zUd_I h21 (by omega))))))
  unfold fX3_takeAsking
  exact zHq_c (b7 h) fun _ z2 _ h2 => zHq_i (fun _ => a31 h2) (fun _ => zHq_l (zHq_d fun _ _ => zHq_i (fun _ => a31 h2) (fun _ => zHq_c (zUd_f h2 (wX3_resets (Nat.and_self _) (zFr_rf _ _)) (by decide)) fun _ _ _ h10 => zHq_s h10)))
theorem zUd_seg143 {N q x e : Nat} {z0 z : St} (h : zUd z0 z) : zHq (zUd z0) (fX11_takeSegment_143 N 0 q x (some e) z) := by
  unfold fX11_takeSegment_143
  refine zHq_o (fun y => by cases y) (fun i _ => zHq_l (zHq_d fun _ _ => zHq_i (fun _ => ?_) (fun _ => ?_)))
  · refine zHq_l (zHq_d fun _ _ => zHq_i (fun _ => ?_) (fun _ => ?_))
    · exact zHq_l (zHq_d fun _ _ => zHq_c (zUd_goesOn h) fun _ z16 _ h16 => zHq_i (fun _ => zHq_s h16) (fun _ => zHq_l (zHq_d fun _ _ => zHq_c (zUd_takeRest h16) fun _ _ _ h23 => zHq_s h23)))
    · exact zHq_l (zHq_d fun _ _ => zHq_c (zUd_takeAsking h) fun _ _ _ h29 => zHq_s h29)
  · exact zHq_l (zHq_d fun _ _ => zHq_c (zUd_f h (wX3_takeListening (Nat.and_self _) (zFr_rf _ _)) (by decide)) fun _ _ _ h35 => zHq_s h35)
