/-! ends, both sides: the loop over a segment's bytes -/
/-- only end e's rows of what came change -/
def zRwC (e : Nat) (z z' : St) : Prop := (∀ k j u, zgI z' k j u = zgI z k j u) ∧ (∀ k u i, ¬ ((k = 120 ∨ k = 121) ∧ u = e) → zgA z' k u i = zgA z k u i) ∧ (∀ k u i, zgL z' k u i = zgL z k u i) ∧ (∀ k u i, zgQ z' k u i = zgQ z k u i) ∧ ∀ k u i, zgR z' k u i = zgR z k u i
def zRwM (e : Nat) (z z' : St) : Prop := (∀ k j u, zgI z' k j u = zgI z k j u) ∧ (∀ k u i, ¬ ((k = 160 ∨ k = 161) ∧ u = e) → zgA z' k u i = zgA z k u i) ∧ (∀ k u i, zgL z' k u i = zgL z k u i) ∧ (∀ k u i, zgQ z' k u i = zgQ z k u i) ∧ ∀ k u i, zgR z' k u i = zgR z k u i
theorem zRwC_rf (e : Nat) (z : St) : zRwC e z z := ⟨fun _ _ _ => rfl, fun _ _ _ _ => rfl, fun _ _ _ => rfl, fun _ _ _ => rfl, fun _ _ _ => rfl⟩
theorem zRwM_rf (e : Nat) (z : St) : zRwM e z z := ⟨fun _ _ _ => rfl, fun _ _ _ _ => rfl, fun _ _ _ => rfl, fun _ _ _ => rfl, fun _ _ _ => rfl⟩
theorem zRwC_tr {e : Nat} {x y z : St} (h1 : zRwC e x y) (h2 : zRwC e y z) : zRwC e x z := ⟨fun k j o => (h2.1 k j o).trans (h1.1 k j o), fun k o i n => (h2.2.1 k o i n).trans (h1.2.1 k o i n), fun k o i => (h2.2.2.1 k o i).trans (h1.2.2.1 k o i), fun k o i => (h2.2.2.2.1 k o i).trans (h1.2.2.2.1 k o i), fun k o i => (h2.2.2.2.2 k o i).trans (h1.2.2.2.2 k o i)⟩
theorem zRwM_tr {e : Nat} {x y z : St} (h1 : zRwM e x y) (h2 : zRwM e y z) : zRwM e x z := ⟨fun k j o => (h2.1 k j o).trans (h1.1 k j o), fun k o i n => (h2.2.1 k o i n).trans (h1.2.1 k o i n), fun k o i => (h2.2.2.1 k o i).trans (h1.2.2.1 k o i), fun k o i => (h2.2.2.2.1 k o i).trans (h1.2.2.2.1 k o i), fun k o i => (h2.2.2.2.2 k o i).trans (h1.2.2.2.2 k o i)⟩
theorem zRwC_A {e k i : Nat} {z : St} {v : Int32} (hk : k = 120 ∨ k = 121) : zRwC e z (zsA z k e i v) := ⟨fun _ _ _ => rfl, fun k' o i' n => by rw [zgA_sA, if_neg (fun y => n ⟨by rw [y.1]; exact hk, y.2.1⟩)], fun _ _ _ => rfl, fun _ _ _ => rfl, fun _ _ _ => rfl⟩
theorem zRwM_A {e k i : Nat} {z : St} {v : Int32} (hk : k = 160 ∨ k = 161) : zRwM e z (zsA z k e i v) := ⟨fun _ _ _ => rfl, fun k' o i' n => by rw [zgA_sA, if_neg (fun y => n ⟨by rw [y.1]; exact hk, y.2.1⟩)], fun _ _ _ => rfl, fun _ _ _ => rfl, fun _ _ _ => rfl⟩
theorem zRwC_c {e : Nat} {z z' : St} (h : zRwC e z z') : zEc1 e z z' := ⟨fun k j o _ => h.1 k j o, fun k o i n => h.2.1 k o i (by omega), h.2.2.1, h.2.2.2.1, h.2.2.2.2⟩
theorem zRwM_m {e : Nat} {z z' : St} (h : zRwM e z z') : zEm1 e z z' := ⟨fun k j o _ => h.1 k j o, fun k o i n => h.2.1 k o i (by omega), h.2.2.1, h.2.2.2.1, h.2.2.2.2⟩
theorem zi_off (a b c : Int32) : (a + b) - c = (a - c) + b := by
  rw [← Int32.toBitVec_inj]
  simp only [Int32.toBitVec_sub, Int32.toBitVec_add]
  rw [BitVec.sub_eq_iff_eq_add, BitVec.add_assoc, BitVec.add_comm b.toBitVec c.toBitVec, ← BitVec.add_assoc, BitVec.sub_add_cancel]
theorem zi_back {a b c : Int32} (h : a - b = c) : a = b + c := by
  rw [← h, ← Int32.toBitVec_inj]
  simp only [Int32.toBitVec_sub, Int32.toBitVec_add]
  rw [BitVec.add_comm, BitVec.sub_add_cancel]
theorem zp_bytesL {e x s st y0 R N : Nat} {V : Sv} {a X Y : Int32} (ha : a = vgN V - X) (hX : X = Y + Int32.ofNat R) (hy : y0 = zun Y) (hst : st < 2048) (hR : R ≤ 2048) :
    ∀ (n i nn mm : Nat) (z w : St), i + n = vgM V → n < nn → n < mm → zSgC z x V → zSgM w s V → zgI z 4 2 e = Int32.ofNat st → zgI z 4 3 e = Int32.ofNat R → zgI w 14 16 e = X → zIa z w e st y0 R →
    ∃ z' w', (∀ K, fX4_take_24 N nn e x (Int32.ofNat (2048 - R)) (Int32.ofNat (vgM V)) a (Int32.ofNat i) z = fX4_take_24b N K e x (Int32.ofNat (2048 - R)) (Int32.ofNat (vgM V)) a (Int32.ofNat (vgM V)) z') ∧ (∀ K, fX19_arriveBytes_50 N mm 0 e (Int32.ofNat s) (Int32.ofNat (vgM V)) (Int32.ofNat (2048 - R)) (vgN V) (Int32.ofNat i) w = fX19_arriveBytes_50b N K 0 e (Int32.ofNat s) (Int32.ofNat (vgM V)) (Int32.ofNat (2048 - R)) (vgN V) (Int32.ofNat (vgM V)) w') ∧ zIa z' w' e st y0 R ∧ zRwC e z z' ∧ zRwM e w w' := by
  intro n
  induction n with
  | zero =>
    intro i nn mm z w hi hn hm hV hVm c2 c3 m16 hA
    obtain ⟨nn, rfl⟩ : ∃ k, nn = k + 1 := ⟨nn - 1, by omega⟩
    obtain ⟨mm, rfl⟩ : ∃ k, mm = k + 1 := ⟨mm - 1, by omega⟩
    have e1 : i = vgM V := by omega
    subst e1
    refine ⟨z, w, fun K => ?_, fun K => ?_, hA, zRwC_rf e z, zRwM_rf e w⟩
    · show fX4_take_24b N _ e x _ _ a _ z = _
      unfold fX4_take_24b
      rw [if_pos (Int32.le_refl _), if_pos (Int32.le_refl _)]
    · show fX19_arriveBytes_50b N _ 0 e _ _ _ _ _ w = _
      unfold fX19_arriveBytes_50b
      rw [if_pos (Int32.le_refl _), if_pos (Int32.le_refl _)]
  | succ n ih =>
    intro i nn mm z w hi hn hm hV hVm c2 c3 m16 hA
    obtain ⟨nn, rfl⟩ : ∃ k, nn = k + 1 := ⟨nn - 1, by omega⟩
    obtain ⟨mm, rfl⟩ : ∃ k, mm = k + 1 := ⟨mm - 1, by omega⟩
    have hM := hV.2.1
    -- one round of each, then the rest
    have go : ∀ z1 w1 : St, fX4_take_24 N (nn + 1) e x (Int32.ofNat (2048 - R)) (Int32.ofNat (vgM V)) a (Int32.ofNat i) z = fX4_take_109 N (fX4_take_24 N nn) e x (Int32.ofNat (2048 - R)) (Int32.ofNat (vgM V)) a (Int32.ofNat i) z1 → fX19_arriveBytes_50 N (mm + 1) 0 e (Int32.ofNat s) (Int32.ofNat (vgM V)) (Int32.ofNat (2048 - R)) (vgN V) (Int32.ofNat i) w = fX19_arriveBytes_123 N (fX19_arriveBytes_50 N mm) 0 e (Int32.ofNat s) (Int32.ofNat (vgM V)) (Int32.ofNat (2048 - R)) (vgN V) (Int32.ofNat i) w1 → zIa z1 w1 e st y0 R → zRwC e z z1 → zRwM e w w1 →
        ∃ z' w', (∀ K, fX4_take_24 N (nn + 1) e x (Int32.ofNat (2048 - R)) (Int32.ofNat (vgM V)) a (Int32.ofNat i) z = fX4_take_24b N K e x (Int32.ofNat (2048 - R)) (Int32.ofNat (vgM V)) a (Int32.ofNat (vgM V)) z') ∧ (∀ K, fX19_arriveBytes_50 N (mm + 1) 0 e (Int32.ofNat s) (Int32.ofNat (vgM V)) (Int32.ofNat (2048 - R)) (vgN V) (Int32.ofNat i) w = fX19_arriveBytes_50b N K 0 e (Int32.ofNat s) (Int32.ofNat (vgM V)) (Int32.ofNat (2048 - R)) (vgN V) (Int32.ofNat (vgM V)) w') ∧ zIa z' w' e st y0 R ∧ zRwC e z z' ∧ zRwM e w w' := by
      intro z1 w1 g1 g2 hA1 hc hm1
      obtain ⟨z', w', k1, k2, k3, k4, k5⟩ := ih (i + 1) nn mm z1 w1 (by omega) (by omega) (by omega) (zSgC_ec (zRwC_c hc) hV) (zSgM_em (zRwM_m hm1) hVm) ((hc.1 4 2 e).trans c2) ((hc.1 4 3 e).trans c3) ((hm1.1 14 16 e).trans m16) hA1
      refine ⟨z', w', fun K => ?_, fun K => ?_, k3, zRwC_tr hc k4, zRwM_tr hm1 k5⟩
      · rw [g1]; unfold fX4_take_109; rw [zl_e, zo_i1]; exact k1 K
      · rw [g2]; unfold fX19_arriveBytes_123; rw [zl_e, zo_i1]; exact k2 K
    have ni : ¬ Int32.ofNat (vgM V) ≤ Int32.ofNat i := by rw [zo_le (by omega) (by omega)]; omega
    have off : (vgN V + Int32.ofNat i) - X = a + Int32.ofNat i := by rw [ha]; exact zi_off _ _ _
    have cE : fX4_take_24 N (nn + 1) e x (Int32.ofNat (2048 - R)) (Int32.ofNat (vgM V)) a (Int32.ofNat i) z = fX4_take_24b N (fX4_take_24 N nn) e x (Int32.ofNat (2048 - R)) (Int32.ofNat (vgM V)) a (Int32.ofNat i) z := rfl
    have mE : fX19_arriveBytes_50 N (mm + 1) 0 e (Int32.ofNat s) (Int32.ofNat (vgM V)) (Int32.ofNat (2048 - R)) (vgN V) (Int32.ofNat i) w = fX19_arriveBytes_50b N (fX19_arriveBytes_50 N mm) 0 e (Int32.ofNat s) (Int32.ofNat (vgM V)) (Int32.ofNat (2048 - R)) (vgN V) (Int32.ofNat i) w := rfl
    obtain ⟨q, hq⟩ : ∃ u, u = a + Int32.ofNat i := ⟨_, rfl⟩
    by_cases d1 : q < 0
    · refine go z w ?_ ?_ hA (zRwC_rf e z) (zRwM_rf e w)
      · rw [cE]; unfold fX4_take_24b; rw [if_neg ni, ← hq, if_pos d1]
      · rw [mE]; unfold fX19_arriveBytes_50b; rw [if_neg ni, m16, off, ← hq, zl_e, zl_e, if_pos d1]
    · by_cases d2 : q < Int32.ofNat (2048 - R)
      · -- it is one of those that there is room for
        obtain ⟨k, hk, hkR⟩ : ∃ k : Nat, q = Int32.ofNat k ∧ k < 2048 - R := by
          have b0 : ¬ q.toInt < 0 := fun y => d1 (Int32.lt_iff_toInt_lt.mpr y)
          have b1 := Int32.lt_iff_toInt_lt.mp d2
          rw [zoI (by omega)] at b1
          refine ⟨q.toInt.toNat, ?_, by omega⟩
          rw [← Int32.toInt_inj, zoI (by omega)]; omega
        have ix1 : ((((zgI z 4 2 e) + (zgI z 4 3 e)) + a) + Int32.ofNat i) &&& (2047 : Int32) = Int32.ofNat ((st + (R + k)) % 2048) := by
          rw [c2, c3, zo_add, Int32.add_assoc, ← hq, hk, zo_add, zand47 (by omega), Nat.add_assoc]
        have ix2 : (vgN V + Int32.ofNat i) &&& (2047 : Int32) = Int32.ofNat ((y0 + (R + k)) % 2048) := by
          have e1 : vgN V + Int32.ofNat i = X + Int32.ofNat k := by
            rw [← hk, hq]; exact zi_back off
          rw [zand_o, e1, zun_add, hX]
          have := zun_add Y R
          rw [← hy] at this
          congr 1; omega
        obtain ⟨b1, b2, -⟩ := hA (R + k) (by omega)
        have lt1 : (st + (R + k)) % 2048 < 2048 := Nat.mod_lt _ (by decide)
        have lt2 : (y0 + (R + k)) % 2048 < 2048 := Nat.mod_lt _ (by decide)
        by_cases d3 : zgA z 121 e ((st + (R + k)) % 2048) = 0
        · -- and is new
          have vb : vp_nar .boolean (1 : Int32) = 1 := by decide
          obtain ⟨v, hv⟩ : ∃ u, u = vp_nar .byte (vgB V i) := ⟨_, rfl⟩
          refine go (zsA (zsA z 121 e ((st + (R + k)) % 2048) 1) 120 e ((st + (R + k)) % 2048) v) (zsA (zsA w 161 e ((y0 + (R + k)) % 2048) 1) 160 e ((y0 + (R + k)) % 2048) v) ?_ ?_ (zIa_set (by omega) (by omega) v hA) (zRwC_tr (zRwC_A (by simp)) (zRwC_A (by simp))) (zRwM_tr (zRwM_A (by simp)) (zRwM_A (by simp)))
          · rw [cE]; unfold fX4_take_24b
            have ld : zgA (zsA z 121 e ((st + (R + k)) % 2048) 1) 125 x (20 + i) = vgB V i := by
              rw [zgA_sA, if_neg (by omega)]; exact hV.2.2 i (by omega)
            rw [if_neg ni, ix1, ← hq, if_neg d1, if_pos d2, zl_e, zkk lt1 (by omega), zoC (by omega), if_pos d3, zkk lt1 (by omega), vb, zl_e, show (20 : Int32) + Int32.ofNat i = Int32.ofNat (20 + i) from zo_add 20 i, zkk (show 20 + i < 1480 by omega) (by omega), zkk lt1 (by omega), zoC (show 20 + i < 2147483648 by omega), ld, ← hv, zl_e]
          · rw [mE]; unfold fX19_arriveBytes_50b
            have by_ : fX19_byteOf N 0 (Int32.ofNat s) (Int32.ofNat i) (zsA w 161 e ((y0 + (R + k)) % 2048) 1) = some (vgB V i, zsA w 161 e ((y0 + (R + k)) % 2048) 1) := by
              rw [zm_byteOf hVm.1 (by omega)]
              have : sby (zsA w 161 e ((y0 + (R + k)) % 2048) 1) s i = vgB V i := hVm.2.2.2 i (by omega)
              rw [this]
            rw [if_neg ni, m16, off, ← hq, zl_e, ix2, zl_e, if_neg d1, if_neg (show ¬ Int32.ofNat (2048 - R) ≤ q from by rw [Int32.not_le]; exact d2), zkk lt2 (by omega), zoC (by omega), if_neg (show ¬ ¬ zgA w 161 e ((y0 + (R + k)) % 2048) = 0 from fun y => y (by rw [← b1]; exact d3)), zkk lt2 (by omega), vb, zl_e, by_, zc_e, zkk lt2 (by omega), ← hv, zl_e]
        · refine go z w ?_ ?_ hA (zRwC_rf e z) (zRwM_rf e w)
          · rw [cE]; unfold fX4_take_24b; rw [if_neg ni, ix1, ← hq, if_neg d1, if_pos d2, zl_e, zkk lt1 (by omega), zoC (by omega), if_neg d3]
          · rw [mE]; unfold fX19_arriveBytes_50b; rw [if_neg ni, m16, off, ← hq, zl_e, ix2, zl_e, if_neg d1, if_neg (show ¬ Int32.ofNat (2048 - R) ≤ q from by rw [Int32.not_le]; exact d2), zkk lt2 (by omega), zoC (by omega), if_pos (show ¬ zgA w 161 e ((y0 + (R + k)) % 2048) = 0 from by rw [← b1]; exact d3)]
      · refine go z w ?_ ?_ hA (zRwC_rf e z) (zRwM_rf e w)
        · rw [cE]; unfold fX4_take_24b; rw [if_neg ni, ← hq, if_neg d1, if_neg d2]
        · rw [mE]; unfold fX19_arriveBytes_50b; rw [if_neg ni, m16, off, ← hq, zl_e, zl_e, if_neg d1, if_pos (show Int32.ofNat (2048 - R) ≤ q from by rw [← Int32.not_lt]; exact d2)]
