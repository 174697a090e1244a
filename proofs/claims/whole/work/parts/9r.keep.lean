/-! tallies: what the network's functions leave alone -/
def z5 (z z' : St) : Prop := ∀ b k, k ≠ 5 → zgA z' 113 b k = zgA z 113 b k
def z5w {α : Type} (z0 : St) (x : Option (α × St)) : Prop := ∀ r z', x = some (r, z') → z5 z0 z'
theorem z5_rf (z : St) : z5 z z := fun _ _ _ => rfl
theorem z5_tr {a b c : St} (h1 : z5 a b) (h2 : z5 b c) : z5 a c := fun o k hk => (h2 o k hk).trans (h1 o k hk)
theorem z5_fr {M : Nat} {a b : St} (f : zFr M a b) (hm : M.testBit (1180 + 113) = false) : z5 a b := fun o k _ => zFr_gA f hm o k
section
variable {α β : Type} {z0 z : St}
theorem z5_s {r : α} (h : z5 z0 z) : z5w z0 (some (r, z)) := fun r' z' e => by cases e; exact h
theorem z5_l {e : β} {k : β → Option (α × St)} (h : ∀ x, z5w z0 (k x)) : z5w z0 (zl e k) := h e
theorem z5_d {x : Option β} {K : β → Option (α × St)} (hh : ∀ a, z5w z0 (K a)) : z5w z0 (zd x K) := by
  cases x with
  | none => intro r z' e; cases e
  | some a => exact hh a
theorem z5_k {i : Int32} {n : Nat} {k : Option (α × St)} (h : z5w z0 k) : z5w z0 (zk i n k) := by
  unfold zk
  split
  · intro r z' e; cases e
  · exact h
theorem z5_i {c : Prop} [dc : Decidable c] {a b : Option (α × St)} (ha : z5w z0 a) (hb : z5w z0 b) : z5w z0 (if c then a else b) := by
  split
  · exact ha
  · exact hb
theorem z5_c {x : Option (β × St)} {K : β → St → Option (α × St)} (h : z5w z0 x) (hh : ∀ r z1, z5 z0 z1 → z5w z0 (K r z1)) : z5w z0 (zc x K) := fun r z' e => by
  obtain ⟨a, z1, e1, e2⟩ := zc_some e
  exact hh a z1 (h a z1 e1) r z' e2
theorem z5_f {M : Nat} {x : Option (β × St)} (h : z5 z0 z) (f : zPw M z x) (hm : M.testBit (1180 + 113) = false) : z5w z0 x := fun r z' e => z5_tr h (z5_fr (f r z' e) hm)
theorem z5_A {b : Nat} {v : Int32} (h : z5 z0 z) : z5 z0 (zsA z 113 b (Int32.toNatClampNeg (5 : Int32)) v) := z5_tr h (fun o k hk => by
  rw [zgA_sA, if_neg (fun y => hk y.2.2)])
end
theorem z5_putOn52 {N q x : Nat} {to sz : Int32} {z0 : St} : ∀ (n : Nat) (a : Int32) (z : St), z5 z0 z → z5w z0 (fX11_putOn_52 N n 0 q to x sz a z) := by
  intro n
  induction n with
  | zero => intro a z h r z' e; cases e
  | succ n ih =>
    intro a z h
    show z5w z0 (fX11_putOn_52b N (fX11_putOn_52 N n) 0 q to x sz a z)
    unfold fX11_putOn_52b
    exact z5_i (z5_s h) (z5_l fun y2 => z5_d fun a3 => z5_k (z5_k (z5_c (z5_f (z5_A h) (wX11_putFrame (Nat.and_self _) (zFr_rf _ _)) (by decide)) (fun r z1 h1 => z5_l fun v => ih _ _ h1))))
theorem z5_putOn {N q x : Nat} {to : Int32} {z0 z : St} (h : z5 z0 z) : z5w z0 (fX11_putOn N 0 q to x z) := by
  unfold fX11_putOn
  exact z5_l fun y1 => z5_d fun a2 => z5_l fun v3 => z5_i (z5_l fun v5 => z5_putOn52 _ _ _ h) (z5_c (z5_f h (wX11_putFrame (Nat.and_self _) (zFr_rf _ _)) (by decide)) (fun r z1 h1 => z5_s h1))
theorem z5_putNote {N q : Nat} {to kind addr : Int32} {z0 z : St} (h : z5 z0 z) : z5w z0 (fX11_putNote N 0 q to kind addr z) := z5_f h (wX11_putNote (Nat.and_self _) (zFr_rf _ _)) (by decide)
theorem z5_hand {N q x : Nat} {s : Int32} {z0 z : St} (h : z5 z0 z) : z5w z0 (fX11_hand N 0 q s x z) := by
  unfold fX11_hand
  exact z5_c (z5_f h (wX8_knows (Nat.and_self _) (zFr_rf _ _)) (by decide)) (fun r1 z2 h2 => z5_i (z5_c (z5_f h2 (wX8_isAsked (Nat.and_self _) (zFr_rf _ _)) (by decide)) (fun r6 z7 h7 => z5_i (z5_f h7 (wX11_hand_52 (Nat.and_self _) (zFr_rf _ _)) (by decide)) (z5_c (z5_f h7 (wX8_beginAsking (Nat.and_self _) (zFr_rf _ _)) (by decide)) (fun _ z12 h12 => z5_l fun y15 => z5_d fun a16 => z5_c (z5_f h12 (wX5_addressOf (Nat.and_self _) (zFr_rf _ _)) (by decide)) (fun r17 z18 h18 => z5_c (z5_putNote h18) (fun _ z22 h22 => z5_f h22 (wX11_hand_52 (Nat.and_self _) (zFr_rf _ _)) (by decide))))))) (z5_c (z5_putOn h2) (fun _ z26 h26 => z5_s h26)))
theorem z5_release {N q : Nat} {s : Int32} {z0 z : St} (h : z5 z0 z) : z5w z0 (fX11_release N 0 q s z) := by
  have loop : ∀ (n : Nat) (i : Int32) (z : St), z5 z0 z → z5w z0 (fX11_release_2 N n 0 q s i z) := by
    intro n
    induction n with
    | zero => intro i z h r z' e; cases e
    | succ n ih =>
      intro i z h
      show z5w z0 (fX11_release_2b N (fX11_release_2 N n) 0 q s i z)
      unfold fX11_release_2b
      exact z5_i (z5_f h (wX11_release_41 (Nat.and_self _) (zFr_rf _ _)) (by decide)) (z5_c (z5_f h (wX8_firstWaitingFor (Nat.and_self _) (zFr_rf _ _)) (by decide)) (fun r2 z3 h3 => z5_i (z5_c (z5_f h3 (wX8_takeWaiting (Nat.and_self _) (zFr_rf _ _)) (by decide)) (fun r7 z8 h8 => z5_d fun a11 => z5_c (z5_putOn h8) (fun _ z13 h13 => z5_l fun v16 => ih _ _ h13))) (z5_f h3 (wX11_release_41 (Nat.and_self _) (zFr_rf _ _)) (by decide))))
  unfold fX11_release
  exact loop _ _ _ h
/-- the tallies of both sides -/
def zUt (z w : St) (T : Tp) : Prop := ∀ b, b < tb T → zgA z 113 b 2 = zgI w 12 4 b ∧ zgA z 113 b 3 = zgI w 12 5 b ∧ zgA z 113 b 4 = zgI w 12 6 b ∧ zgA z 113 b 6 = zgI w 12 8 b ∧ zgA z 113 b 7 = zgI w 12 9 b
theorem zUt_keep {M : Nat} {z z' w w' : St} {T : Tp} (h5 : z5 z z') (f : zFr M w w') (hm : 0x370000000000000000000000000000000000000000000000000000000000000000000000000000000000000000000000000000000000000000000000000000000000000000000000000000000000000000000000000000000000000000000000000 &&& M = 0) (h : zUt z w T) : zUt z' w' T := fun b hb => by
  obtain ⟨a2, a3, a4, a6, a7⟩ := h b hb
  have gI : ∀ j, 0x370000000000000000000000000000000000000000000000000000000000000000000000000000000000000000000000000000000000000000000000000000000000000000000000000000000000000000000000000000000000000000000000000.testBit (64 * 12 + j) = true → zgI w' 12 j b = zgI w 12 j b := fun j hj => zFr_gI f (by decide) (ztf hm hj) b
  rw [h5 b 2 (by decide), h5 b 3 (by decide), h5 b 4 (by decide), h5 b 6 (by decide), h5 b 7 (by decide), gI 4 (by decide), gI 5 (by decide), gI 6 (by decide), gI 8 (by decide), gI 9 (by decide)]
  exact ⟨a2, a3, a4, a6, a7⟩
theorem zUt_keepC {z z' w : St} {T : Tp} (h5 : z5 z z') (h : zUt z w T) : zUt z' w T := zUt_keep h5 (zFr_rf 0 w) (by decide) h
theorem zUt_keepM {M : Nat} {z w w' : St} {T : Tp} (f : zFr M w w') (hm : 0x370000000000000000000000000000000000000000000000000000000000000000000000000000000000000000000000000000000000000000000000000000000000000000000000000000000000000000000000000000000000000000000000000 &&& M = 0) (h : zUt z w T) : zUt z w' T := zUt_keep (z5_rf z) f hm h
/-- what two bytes give has no more than two bytes -/
theorem g2_and (p : Nat → Int32) (i : Nat) : g2 p i &&& (65535 : Int32) = g2 p i := by
  unfold g2
  generalize p i = a
  generalize p (i + 1) = b
  apply Int32.toBitVec_inj.mp
  have e : ((8 : Int32) &&& 31).toBitVec.smod 32#32 = 8#32 := by decide
  show ((((a.toBitVec &&& 255#32) <<< (((8 : Int32) &&& 31).toBitVec.smod 32#32)) ||| (b.toBitVec &&& 255#32)) &&& 65535#32) = (((a.toBitVec &&& 255#32) <<< (((8 : Int32) &&& 31).toBitVec.smod 32#32)) ||| (b.toBitVec &&& 255#32))
  rw [e]
  show ((((a.toBitVec &&& 255#32) <<< 8) ||| (b.toBitVec &&& 255#32)) &&& 65535#32) = (((a.toBitVec &&& 255#32) <<< 8) ||| (b.toBitVec &&& 255#32))
  apply BitVec.eq_of_getLsbD_eq
  intro j hj
  rw [BitVec.getLsbD_and, BitVec.getLsbD_or, BitVec.getLsbD_shiftLeft, BitVec.getLsbD_and, BitVec.getLsbD_and, bit255 j hj, bit65535 j hj]
  by_cases c : j < 16
  · simp [c]
  · rw [bit255 (j - 8) (by omega)]
    have c3 : ¬ j - 8 < 8 := by omega
    have c4 : ¬ j < 8 := by omega
    simp [c, c3, c4]
