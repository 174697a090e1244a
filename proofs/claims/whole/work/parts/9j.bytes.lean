/-! bytes of payloads: what is laid and what is read -/
theorem be_e (v : Int32) : vp_nar .byte ((Int32.toInt8 v).toInt32) = (Int32.toInt8 v).toInt32 := by
  unfold vp_nar narrow
  simp
/-- the lowest byte -/
def be (v : Int32) : Int32 := (Int32.toInt8 v).toInt32
theorem be_and (v : Int32) : be v &&& (255 : Int32) = v &&& (255 : Int32) := by
  apply Int32.toBitVec_inj.mp
  show ((v.toBitVec.signExtend 8).signExtend 32) &&& 255#32 = v.toBitVec &&& 255#32
  apply BitVec.eq_of_getLsbD_eq
  intro j hj
  have hd : ∀ j, j < 32 → ((255#32 : BitVec 32).getLsbD j = decide (j < 8)) := by decide +kernel
  rw [BitVec.getLsbD_and, BitVec.getLsbD_and, hd j hj]
  by_cases c : j < 8
  · rw [BitVec.getLsbD_signExtend, BitVec.getLsbD_signExtend]
    have c1 : j < 32 := by omega
    simp [c, c1]
  · simp [c]
theorem bit255 : ∀ j, j < 32 → ((255#32 : BitVec 32).getLsbD j = decide (j < 8)) := by decide +kernel
theorem bit65535 : ∀ j, j < 32 → ((65535#32 : BitVec 32).getLsbD j = decide (j < 16)) := by decide +kernel
/-- two bytes put together -/
theorem ge2 (v : Int32) : ((be (v >>> ((8 : Int32) &&& 31)) &&& (255 : Int32)) <<< ((8 : Int32) &&& 31)) ||| (be v &&& (255 : Int32)) = v &&& (65535 : Int32) := by
  rw [be_and, be_and]
  apply Int32.toBitVec_inj.mp
  have e : ((8 : Int32) &&& 31).toBitVec.smod 32#32 = 8#32 := by decide
  show (((v.toBitVec.sshiftRight' (((8 : Int32) &&& 31).toBitVec.smod 32#32)) &&& 255#32) <<< (((8 : Int32) &&& 31).toBitVec.smod 32#32)) ||| (v.toBitVec &&& 255#32) = v.toBitVec &&& 65535#32
  rw [e]
  show (((v.toBitVec.sshiftRight 8) &&& 255#32) <<< 8) ||| (v.toBitVec &&& 255#32) = v.toBitVec &&& 65535#32
  apply BitVec.eq_of_getLsbD_eq
  intro j hj
  rw [BitVec.getLsbD_or, BitVec.getLsbD_and, BitVec.getLsbD_and, BitVec.getLsbD_shiftLeft, BitVec.getLsbD_and, bit255 j hj, bit65535 j hj]
  by_cases c : j < 8
  · have c1 : j < 16 := by omega
    simp [c, c1]
  · by_cases c1 : j < 16
    · rw [bit255 (j - 8) (by omega), BitVec.getLsbD_sshiftRight]
      have e1 : 8 + (j - 8) = j := by omega
      have c3 : j - 8 < 8 := by omega
      have c4 : ¬ 32 ≤ j - 8 := by omega
      simp [c, c1, hj, e1, c3, c4]
    · rw [bit255 (j - 8) (by omega)]
      have c3 : ¬ j - 8 < 8 := by omega
      simp [c, c1, c3]
/-- four bytes put together -/
theorem ge4 (v : Int32) : ((((v >>> ((16 : Int32) &&& 31)) &&& (65535 : Int32)) <<< ((16 : Int32) &&& 31)) ||| (v &&& (65535 : Int32))) = v := by
  apply Int32.toBitVec_inj.mp
  have e : ((16 : Int32) &&& 31).toBitVec.smod 32#32 = 16#32 := by decide
  show (((v.toBitVec.sshiftRight' (((16 : Int32) &&& 31).toBitVec.smod 32#32)) &&& 65535#32) <<< (((16 : Int32) &&& 31).toBitVec.smod 32#32)) ||| (v.toBitVec &&& 65535#32) = v.toBitVec
  rw [e]
  show (((v.toBitVec.sshiftRight 16) &&& 65535#32) <<< 16) ||| (v.toBitVec &&& 65535#32) = v.toBitVec
  apply BitVec.eq_of_getLsbD_eq
  intro j hj
  rw [BitVec.getLsbD_or, BitVec.getLsbD_and, BitVec.getLsbD_shiftLeft, BitVec.getLsbD_and, bit65535 j hj]
  by_cases c : j < 16
  · simp [c]
  · rw [bit65535 (j - 16) (by omega), BitVec.getLsbD_sshiftRight]
    have e1 : 16 + (j - 16) = j := by omega
    have c3 : j - 16 < 16 := by omega
    have c4 : ¬ 32 ≤ j - 16 := by omega
    simp [c, hj, e1, c3, c4]
theorem sh24 (v : Int32) : (v >>> ((16 : Int32) &&& 31)) >>> ((8 : Int32) &&& 31) = v >>> ((24 : Int32) &&& 31) := by
  apply Int32.toBitVec_inj.mp
  have e : ((16 : Int32) &&& 31).toBitVec.smod 32#32 = 16#32 := by decide
  have e2 : ((8 : Int32) &&& 31).toBitVec.smod 32#32 = 8#32 := by decide
  have e3 : ((24 : Int32) &&& 31).toBitVec.smod 32#32 = 24#32 := by decide
  show ((v.toBitVec.sshiftRight' (((16 : Int32) &&& 31).toBitVec.smod 32#32)).sshiftRight' (((8 : Int32) &&& 31).toBitVec.smod 32#32)) = v.toBitVec.sshiftRight' (((24 : Int32) &&& 31).toBitVec.smod 32#32)
  rw [e, e2, e3]
  show (v.toBitVec.sshiftRight 16).sshiftRight 8 = v.toBitVec.sshiftRight 24
  exact BitVec.sshiftRight_add.symm
def p2 (p : Nat → Int32) (i : Nat) (v : Int32) : Nat → Int32 := fun j => if j = i + 1 then be v else if j = i then be (v >>> ((8 : Int32) &&& 31)) else p j
def p4 (p : Nat → Int32) (i : Nat) (v : Int32) : Nat → Int32 := p2 (p2 p i (v >>> ((16 : Int32) &&& 31))) (i + 2) v
theorem g2_p2 (p : Nat → Int32) (i : Nat) (v : Int32) : g2 (p2 p i v) i = v &&& (65535 : Int32) := by
  unfold g2
  have e1 : p2 p i v i = be (v >>> ((8 : Int32) &&& 31)) := by
    show (if i = i + 1 then _ else if i = i then _ else _) = _
    rw [if_neg (by omega), if_pos rfl]
  have e2 : p2 p i v (i + 1) = be v := if_pos rfl
  rw [e1, e2, ge2]
theorem g2_o2 (p : Nat → Int32) {i k : Nat} (v : Int32) (h : k + 2 ≤ i ∨ i + 2 ≤ k) : g2 (p2 p i v) k = g2 p k := by
  unfold g2
  have e1 : p2 p i v k = p k := by
    show (if k = i + 1 then _ else if k = i then _ else _) = _
    rw [if_neg (by omega), if_neg (by omega)]
  have e2 : p2 p i v (k + 1) = p (k + 1) := by
    show (if k + 1 = i + 1 then _ else if k + 1 = i then _ else _) = _
    rw [if_neg (by omega), if_neg (by omega)]
  rw [e1, e2]
theorem g2_o4 (p : Nat → Int32) {i k : Nat} (v : Int32) (h : k + 2 ≤ i ∨ i + 4 ≤ k) : g2 (p4 p i v) k = g2 p k := by
  unfold p4
  rw [g2_o2 _ _ (by omega), g2_o2 _ _ (by omega)]
theorem g4_p4 (p : Nat → Int32) (i : Nat) (v : Int32) : g4 (p4 p i v) i = v := by
  unfold g4 p4
  rw [g2_o2 _ _ (by omega), g2_p2, g2_p2, ge4]
theorem g4_o2 (p : Nat → Int32) {i k : Nat} (v : Int32) (h : k + 4 ≤ i ∨ i + 2 ≤ k) : g4 (p2 p i v) k = g4 p k := by
  unfold g4
  rw [g2_o2 _ _ (by omega), g2_o2 _ _ (by omega)]
theorem g4_o4 (p : Nat → Int32) {i k : Nat} (v : Int32) (h : k + 4 ≤ i ∨ i + 4 ≤ k) : g4 (p4 p i v) k = g4 p k := by
  unfold g4
  rw [g2_o4 _ _ (by omega), g2_o4 _ _ (by omega)]
theorem p2_at (p : Nat → Int32) {i j : Nat} (v : Int32) (h : j < i ∨ i + 2 ≤ j) : p2 p i v j = p j := by
  show (if j = i + 1 then _ else if j = i then _ else _) = _
  rw [if_neg (by omega), if_neg (by omega)]
theorem zsA_asC (z : St) (k o i : Nat) (v : Int32) : zsA z k o i v = zsC z k o (fun j => if j = i then v else zgA z k o j) := by
  have := zsA_C2 z k o (zgA z k o) i v
  rw [zsC_id] at this
  exact this
theorem zsC_C (z : St) (k o : Nat) (f g : Nat → Int32) : zsC (zsC z k o f) k o g = zsC z k o g := by
  have e : (fun k' o' i' => if k' = k ∧ o' = o then g i' else (fun k' o' i' => if k' = k ∧ o' = o then f i' else z.2.2.1 k' o' i') k' o' i') = (fun k' o' i' => if k' = k ∧ o' = o then g i' else z.2.2.1 k' o' i') := by
    funext k' o' i'
    by_cases c : k' = k ∧ o' = o
    · rw [if_pos c, if_pos c]
    · rw [if_neg c, if_neg c]
      exact if_neg c
  exact congrArg (fun f => (z.1, z.2.1, f, z.2.2.2)) e
/-- what is laid into a parcel's bytes -/
theorem zc_put2 {z : St} {x i N : Nat} {v : Int32} (h : i + 2 ≤ 1480) : fX7_put2 N x (Int32.ofNat i) v z = some (0, zsC z 125 x (p2 (zgA z 125 x) i v)) := by
  unfold fX7_put2
  rw [if_neg (zo_nn (by omega)), show (2 : Int32) = Int32.ofNat 2 from rfl, zo_add, if_pos (by rw [show (1480 : Int32) = Int32.ofNat 1480 from rfl, zo_le (by omega) (by omega)]; exact h), zkk (by omega) (by omega), zl_e, zoC (by omega), zo_i1, zkk (by omega) (by omega), zl_e, zoC (by omega), be_e, be_e, zsA_asC z 125 x i, zsA_C2]
  congr 2
theorem zc_get2 {z : St} {x i N : Nat} (h : i + 2 ≤ 1480) : fX7_get2 N x (Int32.ofNat i) z = some (g2 (zgA z 125 x) i, z) := by
  unfold fX7_get2
  rw [if_neg (zo_nn (by omega)), show (2 : Int32) = Int32.ofNat 2 from rfl, zo_add, if_pos (by rw [show (1480 : Int32) = Int32.ofNat 1480 from rfl, zo_le (by omega) (by omega)]; exact h), zkk (by omega) (by omega), zo_i1, zkk (by omega) (by omega), zoC (by omega), zoC (by omega)]
  rfl
theorem zc_get4 {z : St} {x i N : Nat} (h : i + 4 ≤ 1480) : fX7_get4 N x (Int32.ofNat i) z = some (g4 (zgA z 125 x) i, z) := by
  unfold fX7_get4
  rw [zc_get2 (by omega), zc_e, show (2 : Int32) = Int32.ofNat 2 from rfl, zo_add, zc_get2 (by omega), zc_e]
  rfl
theorem zsh4 : ∀ i, i < 4 → ((((24 : Int32) - ((8 : Int32) * Int32.ofNat i)) &&& 31)) = Int32.ofNat (24 - 8 * i) := by decide +kernel
theorem zc_put4 {z : St} {x i N : Nat} {v : Int32} (h : i + 4 ≤ 1480) (hN : 4 < N) : fX7_put4 N x (Int32.ofNat i) v z = some (0, zsC z 125 x (p4 (zgA z 125 x) i v)) := by
  unfold fX7_put4
  rw [if_neg (zo_nn (by omega)), show (4 : Int32) = Int32.ofNat 4 from rfl, zo_add, if_pos (by rw [show (1480 : Int32) = Int32.ofNat 1480 from rfl, zo_le (by omega) (by omega)]; exact h)]
  let b : Nat → Int32 := fun k => be (v >>> Int32.ofNat (24 - 8 * k))
  let f : Nat → Nat → Int32 := fun n j => if i ≤ j ∧ j < i + n then b (j - i) else zgA z 125 x j
  have e0 : zsC z 125 x (f 0) = z := by
    have : f 0 = zgA z 125 x := funext (fun j => by show (if _ then _ else _) = _; rw [if_neg (by omega)])
    rw [this]; exact zsC_id z 125 x
  refine Eq.trans ?_ ((zlp0 (G := fun n' k => fX7_put4_16 N n' x (Int32.ofNat i) v (Int32.ofNat k) (zsC z 125 x (f k))) (r := some (0, zsC z 125 x (f 4))) (k := 4) (n := N) hN ?_ ?_).trans ?_)
  · show _ = fX7_put4_16 N N x (Int32.ofNat i) v (Int32.ofNat 0) (zsC z 125 x (f 0))
    rw [e0]; rfl
  · intro n' k hk
    show fX7_put4_16b N (fX7_put4_16 N n') x (Int32.ofNat i) v (Int32.ofNat k) (zsC z 125 x (f k)) = _
    unfold fX7_put4_16b
    rw [show (4 : Int32) = Int32.ofNat 4 from rfl, if_neg (by rw [zo_le (by omega) (by omega)]; omega), zo_add, zkk (by omega) (by omega), zoC (by omega), zsh4 k hk, be_e, zl_e, zsA_C2, zl_e, zo_i1]
    have : (fun j => if j = i + k then (Int32.toInt8 (v >>> Int32.ofNat (24 - 8 * k))).toInt32 else f k j) = f (k + 1) := by
      funext j
      show (if _ then _ else (if _ then _ else _)) = (if _ then _ else _)
      by_cases e : j = i + k
      · rw [if_pos e, if_pos (by omega), e, Nat.add_sub_cancel_left]; rfl
      · rw [if_neg e]
        by_cases e2 : i ≤ j ∧ j < i + k
        · rw [if_pos e2, if_pos (by omega)]
        · rw [if_neg e2, if_neg (by omega)]
    rw [this]
  · intro n'
    show fX7_put4_16b N (fX7_put4_16 N n') x (Int32.ofNat i) v (Int32.ofNat 4) (zsC z 125 x (f 4)) = _
    unfold fX7_put4_16b
    rw [show (4 : Int32) = Int32.ofNat 4 from rfl, if_pos (Int32.le_refl _)]
  · have : f 4 = p4 (zgA z 125 x) i v := by
      funext j
      show (if _ then _ else _) = _
      unfold p4 p2
      have s24 := sh24 v
      by_cases j0 : j = i
      · rw [if_pos (by omega), if_neg (by omega), if_neg (by omega), if_neg (by omega), if_pos j0, j0, Nat.sub_self, s24]
        rfl
      by_cases j1 : j = i + 1
      · rw [if_pos (by omega), if_neg (by omega), if_neg (by omega), if_pos j1, j1, Nat.add_sub_cancel_left]
        rfl
      by_cases j2 : j = i + 2
      · rw [if_pos (by omega), if_neg (by omega), if_pos j2, j2, Nat.add_sub_cancel_left]
        rfl
      by_cases j3 : j = i + 3
      · rw [if_pos (by omega), if_pos (by omega), j3, Nat.add_sub_cancel_left]
        show be (v >>> Int32.ofNat 0) = be v
        congr 1
        apply Int32.toBitVec_inj.mp
        show v.toBitVec.sshiftRight' ((Int32.ofNat 0).toBitVec.smod 32#32) = v.toBitVec
        have : (Int32.ofNat 0).toBitVec.smod 32#32 = 0#32 := by decide
        rw [this]
        show v.toBitVec.sshiftRight 0 = _
        exact BitVec.sshiftRight_zero
      · rw [if_neg (by omega), if_neg (by omega), if_neg (by omega), if_neg (by omega), if_neg (by omega)]
    rw [this]
