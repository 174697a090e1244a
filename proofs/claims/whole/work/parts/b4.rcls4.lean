/-! entries as numbers -/
theorem zsar {v k : Nat} (hv : v < 2147483648) (hk : k < 32) (s : Int32) (hs : s.toBitVec.smod 32#32 = BitVec.ofNat 32 k) : Int32.ofNat v >>> s = Int32.ofNat (v / 2 ^ k) := by
  apply Int32.toBitVec_inj.mp
  apply BitVec.eq_of_toNat_eq
  have h1 : (Int32.ofNat v).toBitVec.toNat = v := zun_of (by omega)
  have h2 : v / 2 ^ k ≤ v := Nat.div_le_self _ _
  have h3 : (Int32.ofNat (v / 2 ^ k)).toBitVec.toNat = v / 2 ^ k := zun_of (by omega)
  rw [h3]
  show ((Int32.ofNat v).toBitVec.sshiftRight' (s.toBitVec.smod 32#32)).toNat = _
  rw [hs]
  show ((Int32.ofNat v).toBitVec.sshiftRight (BitVec.ofNat 32 k).toNat).toNat = _
  rw [BitVec.sshiftRight_eq_of_msb_false (by rw [BitVec.msb_eq_decide, h1]; simp; omega), BitVec.toNat_ushiftRight, h1, BitVec.toNat_ofNat, Nat.mod_eq_of_lt (by omega), Nat.shiftRight_eq_div_pow]
theorem zshl {v k : Nat} (hv : v * 2 ^ k < 4294967296) (hk : k < 32) (s : Int32) (hs : s.toBitVec.smod 32#32 = BitVec.ofNat 32 k) : zun (Int32.ofNat v <<< s) = v * 2 ^ k := by
  have hv2 : v < 4294967296 := Nat.lt_of_le_of_lt (Nat.le_mul_of_pos_right v (Nat.two_pow_pos k)) hv
  have h1 : (Int32.ofNat v).toBitVec.toNat = v := zun_of hv2
  show ((Int32.ofNat v).toBitVec <<< (s.toBitVec.smod 32#32)).toNat = _
  rw [hs]
  show ((Int32.ofNat v).toBitVec <<< (BitVec.ofNat 32 k).toNat).toNat = _
  rw [BitVec.toNat_shiftLeft, h1, BitVec.toNat_ofNat, Nat.mod_eq_of_lt (show k < 2 ^ 32 by omega), Nat.shiftLeft_eq]
  exact Nat.mod_eq_of_lt hv
theorem zor_n (a b : Int32) : zun (a ||| b) = zun a ||| zun b := BitVec.toNat_or ..
/-- an entry as a number -/
def ze (e : En) : Nat := e.1 * 1048576 + e.2.1 * 4096 + e.2.2
theorem zenc {a b c : Nat} (ha : a < 2048) (hb : b < 256) (hc : c < 4096) : (((Int32.ofNat a) <<< ((20 : Int32) &&& 31)) ||| ((Int32.ofNat b) <<< ((12 : Int32) &&& 31))) ||| Int32.ofNat c = Int32.ofNat (a * 1048576 + b * 4096 + c) := by
  apply zun_inj
  rw [zor_n, zor_n, zshl (k := 20) (by omega) (by omega) _ (by decide), zshl (k := 12) (by omega) (by omega) _ (by decide), zun_of (by omega), zun_of (by omega)]
  have e1 : a * 2 ^ 20 ||| b * 2 ^ 12 = a * 2 ^ 20 + b * 2 ^ 12 := by
    have := Nat.shiftLeft_add_eq_or_of_lt (i := 20) (b := b * 2 ^ 12) (by omega) a
    rw [Nat.shiftLeft_eq] at this
    exact this.symm
  have e2 : (a * 2 ^ 20 + b * 2 ^ 12) ||| c = a * 2 ^ 20 + b * 2 ^ 12 + c := by
    have := Nat.shiftLeft_add_eq_or_of_lt (i := 12) (b := c) (by omega) (a * 2 ^ 8 + b)
    rw [Nat.shiftLeft_eq] at this
    have e3 : a * 2 ^ 20 + b * 2 ^ 12 = (a * 2 ^ 8 + b) * 2 ^ 12 := by rw [Nat.add_mul, Nat.mul_assoc]
    rw [e3]
    exact this.symm
  rw [e1, e2]
theorem zdec {e : En} (h1 : e.1 < 2048) (h2 : e.2.1 < 256) (h3 : e.2.2 < 4096) : ((Int32.ofNat (ze e)) >>> ((20 : Int32) &&& 31)) = Int32.ofNat e.1 ∧ (((Int32.ofNat (ze e)) >>> ((12 : Int32) &&& 31)) &&& (255 : Int32)) = Int32.ofNat e.2.1 ∧ ((Int32.ofNat (ze e)) &&& (4095 : Int32)) = Int32.ofNat e.2.2 := by
  unfold ze
  refine ⟨?_, ?_, ?_⟩
  · rw [zsar (k := 20) (by omega) (by omega) _ (by decide)]
    congr 1
    omega
  · rw [zsar (k := 12) (by omega) (by omega) _ (by decide), zando (by omega)]
    congr 1
    omega
  · apply zun_inj
    show ((Int32.ofNat (e.1 * 1048576 + e.2.1 * 4096 + e.2.2)).toBitVec &&& 4095#32).toNat = _
    rw [BitVec.toNat_and, show (4095#32 : BitVec 32).toNat = 2 ^ 12 - 1 from rfl, Nat.and_two_pow_sub_one_eq_mod]
    show zun (Int32.ofNat _) % _ = _
    rw [zun_of (by omega), zun_of (by omega)]
    omega
/-! routers, the class: forgetting -/
theorem hCnt_app (A B : List Nb) : hCnt (A ++ B) = hCnt A + hCnt B := by
  unfold hCnt
  rw [List.map_append, List.sum_append]
theorem hAt_app (A B : List Nb) (key : Nat) : hAt (A ++ B) key = (hAt A key).or (hAt B key) := by
  unfold hAt
  rw [List.find?_append]
theorem zHn_erase {A B : List Nb} {n : Nb} (h : zHn (A ++ n :: B)) : zHn (A ++ B) := by
  have sub : (A ++ B).Sublist (A ++ n :: B) := List.Sublist.append_left (List.sublist_cons_self n B) A
  exact ⟨⟨fun m hm => h.1.1 m (sub.subset hm), h.1.2.1.sublist sub, Nat.le_trans sub.length_le h.1.2.2⟩, fun m hm => h.2 m (sub.subset hm)⟩
theorem zc_forget {z : St} {b N : Nat} {A B : List Nb} {n : Nb} {Ba : Nat → Option Ad} (hh : zRCh z b (A ++ n :: B)) (h : zRCk z b (A ++ n :: B)) (hH : zHn (A ++ n :: B)) (hB : zRCb z b Ba) (hw : zBw Ba) (h12 : zgR z 9 12 b = some b) (hN : 16 < N) :
    ∃ z', fX9_forget N b (Int32.ofNat A.length) z = some (0, z') ∧ zRCh z' b (A ++ B) ∧ zRCk z' b (A ++ B) ∧ (∀ k j o, ¬ (k = 9 ∧ (j = 1 ∨ j = 5 ∨ j = 10) ∧ o = b) → zgI z' k j o = zgI z k j o) ∧ zgI z' 9 10 b = (if n.2.2.1 = false then zgI z 9 10 b else 1) ∧ (∀ k o i, ¬ (k = 135 ∧ b * 96 ≤ o ∧ o < b * 96 + 96) → ¬ ((k = 131 ∨ k = 132 ∨ k = 133) ∧ o = b) → zgA z' k o i = zgA z k o i) ∧ zKr b z z' := by
  have hl16 := hH.1.2.2
  have hlen : (A ++ n :: B).length = A.length + B.length + 1 := by simp; omega
  rw [hlen] at hl16
  have hnm : n ∈ A ++ n :: B := by simp
  have hk := (hH.1.1 n hnm).1
  obtain ⟨c1, c2⟩ := hh
  rw [hlen] at c1
  have loop : ∀ (m i nn : Nat) (y : St), i + m = A.length + B.length → m < nn → (∀ j, j < i → A.length ≤ j → zgA y 131 b j = zgA z 131 b (j + 1)) → (∀ j, (j < A.length ∨ i ≤ j) → zgA y 131 b j = zgA z 131 b j) → (∀ k j o, zgI y k j o = zgI z k j o) → (∀ k o j, ¬ (k = 131 ∧ o = b) → zgA y k o j = zgA z k o j) → zKr b z y → A.length ≤ i → ∃ y', fX9_forget_9 N nn b (Int32.ofNat n.1) (Int32.ofNat i) y = (zc (fX9_setFriend N b (Int32.ofNat n.1) (0 : Int32) (0 : Int32) (zsA (zsI y' 9 1 b (Int32.ofNat (A.length + B.length))) 132 b n.1 0)) fun _ z6 => some (0, z6)) ∧ (∀ j, j < A.length + B.length → A.length ≤ j → zgA y' 131 b j = zgA z 131 b (j + 1)) ∧ (∀ j, j < A.length → zgA y' 131 b j = zgA z 131 b j) ∧ (∀ k j o, zgI y' k j o = zgI z k j o) ∧ (∀ k o j, ¬ (k = 131 ∧ o = b) → zgA y' k o j = zgA z k o j) ∧ zKr b z y' := by
    intro m
    induction m with
    | zero =>
      intro i nn y hi hn y1 y2 yI yA yK hAi
      obtain ⟨nn, rfl⟩ : ∃ k, nn = k + 1 := ⟨nn - 1, by omega⟩
      refine ⟨y, ?_, fun j h1 h2 => y1 j (by omega) h2, fun j hj => y2 j (Or.inl hj), yI, yA, yK⟩
      show fX9_forget_9b N (fX9_forget_9 N nn) b (Int32.ofNat n.1) (Int32.ofNat i) y = _
      unfold fX9_forget_9b
      rw [yI 9 1 b, c1, zo_i1, if_pos (by rw [zo_le (by omega) (by omega)]; omega), zo_s1 (by omega), zl_e, zkk hk (by omega), zoC (by omega), zl_e]
      rfl
    | succ m ih =>
      intro i nn y hi hn y1 y2 yI yA yK hAi
      obtain ⟨nn, rfl⟩ : ∃ k, nn = k + 1 := ⟨nn - 1, by omega⟩
      obtain ⟨y', r1, r2⟩ := ih (i + 1) nn (zsA y 131 b i (zgA y 131 b (i + 1))) (by omega) (by omega) (fun j h1 h2 => by
        rw [zgA_sA]
        by_cases c : j = i
        · rw [if_pos ⟨rfl, rfl, c⟩, c]; exact y2 (i + 1) (Or.inr (by omega))
        · rw [if_neg (fun y => c y.2.2)]; exact y1 j (by omega) h2) (fun j hj => by
        rw [zgA_sA, if_neg (by omega)]; exact y2 j (by omega)) yI (fun k o j hk' => by rw [zgA_sA, if_neg (fun y => hk' ⟨y.1, y.2.1⟩)]; exact yA k o j hk') (zKr_tr yK (zKr_A (Or.inr (Or.inr ⟨rfl, by omega⟩)))) (by omega)
      refine ⟨y', ?_, r2⟩
      show fX9_forget_9b N (fX9_forget_9 N nn) b (Int32.ofNat n.1) (Int32.ofNat i) y = _
      unfold fX9_forget_9b
      rw [yI 9 1 b, c1, zo_i1, if_neg (by rw [zo_le (by omega) (by omega)]; omega), zkk (by omega) (by omega), zkk (by omega) (by omega), zoC (by omega), zoC (by omega), zl_e, zl_e]
      exact r1
  obtain ⟨y, r1, r2, r3, r4, r5, r6⟩ := loop B.length A.length N z rfl (by omega) (fun j h1 h2 => by omega) (fun _ _ => rfl) (fun _ _ _ => rfl) (fun _ _ _ _ => rfl) (zKr_rf _ _) (Nat.le_refl _)
  let y1 : St := zsI y 9 1 b (Int32.ofNat (A.length + B.length))
  let y2 : St := zsA y1 132 b n.1 0
  have I1 : ∀ k j o, zgI y1 k j o = if k = 9 ∧ j = 1 ∧ o = b then Int32.ofNat (A.length + B.length) else zgI z k j o := fun k j o => by
    show zgI (zsI y 9 1 b _) k j o = _
    rw [zgI_sI, r4]
  have R1 : zRCk y1 b (A ++ n :: B) := zRCk_cz (by rw [I1, if_neg (by omega)]) (fun i => r5 132 b i (by omega)) (fun i => r5 133 b i (by omega)) (fun o i _ _ => r5 135 o i (by omega)) h
  have R2 : zRCk y2 b (hLast (A ++ n :: B) n.1 0) := zRCk_last (now := 0) hk ⟨n, hnm, rfl⟩ hH.1 R1
  have B2 : zRCb y2 b Ba := zRCb_cg (fun k i hk3 => by
    show zgA (zsA y1 132 b n.1 0) k b i = _
    rw [zgA_sA, if_neg (by omega)]; exact r5 k b i (by omega)) (fun o i _ _ => by
    show zgA (zsA y1 132 b n.1 0) 104 o i = _
    rw [zgA_sA, if_neg (by omega)]; exact r5 104 o i (by omega)) hB
  have hHl := zHn_last (key := n.1) (now := 0) (by omega) hH
  obtain ⟨z', s1, s2, -, s4, s5, s6, s7⟩ := zc_setFriend (N := N) (named := false) (now := 0) R2 hHl B2 hw ((r6.2.2.2.2 9 12 b).trans h12) hk (by omega) (Or.inr rfl) hN
  have s1 : fX9_setFriend N b (Int32.ofNat n.1) 0 0 y2 = some (0, z') := s1
  have hpw := hH.1.2.1
  obtain ⟨mA, mB⟩ := hAll_mid (g := id) (fun _ => rfl) hpw
  rw [List.map_id] at mA
  have eL : hLast (A ++ n :: B) n.1 0 = A ++ (n.1, 0, n.2.2) :: B := hUpd_mid mA mB
  have fnl : fn (hLast (A ++ n :: B) n.1 0) n.1 = n.2.2.1 := by
    unfold hLast
    rw [fn_upd (by intro _; rfl) (by intro _; rfl), fn_mem hpw hnm]
  have look : ∀ n' : Nb, n'.1 = n.1 → n'.2.1 = 0 → n'.2.2.1 = false → (∀ k, k < 16 → n'.2.2.2 k = 0) → zRCk z' b (A ++ n' :: B) → zRCk z' b (A ++ B) := by
    intro n' e1 e2 e3 e4 hR
    refine zRCk_cg (fun key' _ => ?_) ?_ hR
    · have hA : hAt A n.1 = none := hAt_none.mpr mA
      have hB' : hAt B n.1 = none := hAt_none.mpr mB
      unfold fl fn fd
      rw [hAt_app, hAt_app, hAt_cons]
      by_cases c : n'.1 = key'
      · rw [if_pos c]
        rw [e1] at c
        rw [← c, hA, hB']
        exact ⟨e2.symm, e3.symm, fun k hk' => (e4 k hk').symm⟩
      · rw [if_neg c]; exact ⟨rfl, rfl, fun _ _ => rfl⟩
    · rw [hCnt_app, hCnt_app, hCnt_cons]
      have : zcnt (fun k => decide (n'.2.2.2 k ≠ 0)) 16 = 0 := by
        have : zcnt (fun k => decide (n'.2.2.2 k ≠ 0)) 16 = zcnt (fun _ => false) 16 := zcnt_cg (fun j hj => by simp [e4 j hj])
        rw [this]; decide
      omega
  refine ⟨z', ?_, ⟨?_, fun i m hi => ?_⟩, ?_, fun k j o nn => ?_, ?_, fun k o i n1 n2 => ?_, ?_⟩
  · unfold fX9_forget
    have c131 : zgA z 131 b A.length = Int32.ofNat n.1 := c2 A.length n (by simp)
    rw [zkk (by omega) (by omega), zoC (by omega), zl_e, c131]
    refine Eq.trans r1 ?_
    show zc (fX9_setFriend N b (Int32.ofNat n.1) 0 0 y2) _ = _
    rw [s1, zc_e]
  · rw [s4 9 1 b (by omega)]
    show zgI y1 9 1 b = _
    rw [I1, if_pos ⟨rfl, rfl, rfl⟩, List.length_append]
  · have e131 : zgA z' 131 b i = zgA y 131 b i := by
      rw [s6 131 b i (by omega) (by omega)]
      show zgA (zsA y1 132 b n.1 0) 131 b i = _
      rw [zgA_sA, if_neg (by omega)]; rfl
    rw [e131]
    by_cases c : i < A.length
    · rw [List.getElem?_append_left c] at hi
      rw [r3 i c]
      exact c2 i m (by rw [List.getElem?_append_left c]; exact hi)
    · rw [List.getElem?_append_right (by omega)] at hi
      have hil := (List.getElem?_eq_some_iff.mp hi).1
      rw [r2 i (by omega) (by omega)]
      exact c2 (i + 1) m (by rw [List.getElem?_append_right (by omega), show i + 1 - A.length = (i - A.length) + 1 by omega, List.getElem?_cons_succ]; exact hi)
  · unfold hFr at s2
    rw [fnl] at s2
    by_cases c : n.2.2.1 = false
    · rw [if_pos c, eL] at s2
      exact look (n.1, 0, n.2.2) rfl rfl c (fun k hk' => hH.2 n hnm c k hk') s2
    · rw [if_neg c, eL] at s2
      have e3 : hUpd (A ++ ((n.1, 0, n.2.2) : Nb) :: B) n.1 (fun n => (n.1, n.2.1, false, fun k => if k < 16 then (if false = true ∧ (Ba k).isSome = true then 0 else 0) else n.2.2.2 k)) = A ++ (n.1, 0, false, fun k => if k < 16 then (if false = true ∧ (Ba k).isSome = true then 0 else 0) else n.2.2.2 k) :: B := hUpd_mid (n := ((n.1, 0, n.2.2) : Nb)) mA mB
      rw [e3] at s2
      exact look ((n.1, 0, false, fun k => if k < 16 then (if false = true ∧ (Ba k).isSome = true then 0 else 0) else n.2.2.2 k) : Nb) rfl rfl rfl (fun k hk' => by
        show (if k < 16 then (if false = true ∧ (Ba k).isSome = true then 0 else 0) else n.2.2.2 k) = 0
        rw [if_pos hk']; split <;> rfl) s2
  · rw [s4 k j o (fun y => nn ⟨y.1, by omega, y.2.2⟩)]
    show zgI y1 k j o = _
    rw [I1, if_neg (fun y => nn ⟨y.1, Or.inl y.2.1, y.2.2⟩)]
  · rw [s5, fnl]
    have : zgI y2 9 10 b = zgI z 9 10 b := by
      show zgI y1 9 10 b = _
      rw [I1, if_neg (by omega)]
    rw [this]
  · rw [s6 k o i n1 (fun y => n2 ⟨Or.inr (Or.inr y.1), y.2⟩)]
    show zgA (zsA y1 132 b n.1 0) k o i = _
    rw [zgA_sA, if_neg (fun y => n2 ⟨Or.inr (Or.inl y.1), y.2.1⟩)]
    exact r5 k o i (fun y => n2 ⟨Or.inl y.1, y.2⟩)
  · exact zKr_tr r6 (zKr_tr (zKr_I (Or.inl rfl)) (zKr_tr (zKr_A (Or.inr (Or.inr ⟨rfl, by omega⟩))) s7))
