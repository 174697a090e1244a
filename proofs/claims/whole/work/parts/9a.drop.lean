/-! the model: what is held no more -/
theorem zo_cnt {L : List Nat} {b : Nat} (hl : L.length < 1000000) (hb : b ∈ L) : ¬ Int32.ofNat (L.count b) = 0 := by
  have h1 : 0 < L.count b := List.count_pos_iff.mpr hb
  have h2 : L.count b ≤ L.length := List.count_le_length
  rw [show (0 : Int32) = Int32.ofNat 0 from rfl, zo_eq (by omega) (by omega)]
  omega
/-- a pool's place is held once less: what the machine does, and what the pool is then -/
theorem zRc_less {held held1 free : Nat → Int32} {fc : Int32} {n b : Nat} {L : List Nat} (h : zRc held free fc n (b :: L)) (hl : L.length < 1000000) (hh : ∀ y, held1 y = if y = b then held b - 1 else held y) : held1 b = Int32.ofNat (L.count b) ∧ ((b ∈ L ∧ ¬ held1 b = 0 ∧ zRc held1 free fc n L) ∨ (b ∉ L ∧ held1 b = 0)) := by
  have hb := h.1 b List.mem_cons_self
  have hcnt := h.2.1 b hb
  have hlen : (b :: L).count b = L.count b + 1 := List.count_cons_self
  rw [hlen] at hcnt
  have e1 : held1 b = Int32.ofNat (L.count b) := by
    rw [hh b, if_pos rfl, hcnt, zo_s1 (by omega)]; rfl
  refine ⟨e1, ?_⟩
  by_cases c : b ∈ L
  · exact Or.inl ⟨c, by rw [e1]; exact zo_cnt hl c, zRc_drop h c hh⟩
  · exact Or.inr ⟨c, by rw [e1, List.count_eq_zero.mpr c]; rfl⟩
theorem zA_if {w : St} {k b : Nat} {v : Int32} (y : Nat) : zgA (zsA w k 0 b v) k 0 y = if y = b then v else zgA w k 0 y := by
  rw [zgA_sA]
  by_cases c : y = b
  · rw [if_pos ⟨rfl, rfl, c⟩, if_pos c]
  · rw [if_neg (fun z => c z.2.2), if_neg c]
theorem zm_dropBook {w : St} {b N : Nat} {L : List Nat} (hl : L.length < 1000000) (h : zRc (fun x => zgA w 183 0 x) (fun i => zgA w 185 0 i) (zgI w 19 17 0) 2592 (b :: L)) : ∃ w', fX19_dropBook N 0 (Int32.ofNat b) w = some (0, w') ∧ zRc (fun x => zgA w' 183 0 x) (fun i => zgA w' 185 0 i) (zgI w' 19 17 0) 2592 L ∧ (∀ k o i, k ≠ 183 → k ≠ 185 → zgA w' k o i = zgA w k o i) ∧ (∀ k j o, ¬ (k = 19 ∧ j = 17) → zgI w' k j o = zgI w k j o) ∧ (∀ k o i, zgL w' k o i = zgL w k o i) := by
  have hb := h.1 b List.mem_cons_self
  obtain ⟨e1, hcase⟩ := zRc_less (held1 := fun y => zgA (zsA w 183 0 b (zgA w 183 0 b - 1)) 183 0 y) h hl (fun y => zA_if y)
  unfold fX19_dropBook
  rw [if_neg (zo_ne1 (by omega)), zkk (by omega) (by omega), zkk (by omega) (by omega), zoC (by omega), zl_e, zkk (by omega) (by omega)]
  rcases hcase with ⟨c, hz, hr⟩ | ⟨c, hz⟩
  · rw [if_pos hz]
    exact ⟨_, rfl, hr, fun k o i n1 _ => by rw [zgA_sA, if_neg (fun z => n1 z.1)], fun _ _ _ _ => rfl, fun _ _ _ => rfl⟩
  · rw [if_neg (fun q => q hz)]
    obtain ⟨k, k1, k2, k3⟩ := zRc_free1 (held' := fun y => zgA (zsA w 183 0 b (zgA w 183 0 b - 1)) 183 0 y) (free' := fun i => if i = (zgI w 19 17 0).toNatClampNeg then Int32.ofNat b else zgA w 185 0 i) h c (fun y => zA_if y) (by omega) (fun k hk _ i => by rw [hk, zoC (by omega)])
    have e17 : zgI (zsA w 183 0 b (zgA w 183 0 b - 1)) 19 17 0 = Int32.ofNat k := k2
    rw [e17, zkk (by omega) (by omega), zl_e, zoC (by omega), zl_e]
    have e18 : zgI (zsA (zsA w 183 0 b (zgA w 183 0 b - 1)) 185 0 k (Int32.ofNat b)) 19 17 0 = Int32.ofNat k := k2
    rw [e18, zo_i1]
    refine ⟨_, rfl, ?_, fun k' o i n1 n2 => ?_, fun k' j o hk => ?_, fun _ _ _ => rfl⟩
    · have f1 : (fun x => zgA (zsI (zsA (zsA w 183 0 b (zgA w 183 0 b - 1)) 185 0 k (Int32.ofNat b)) 19 17 0 (Int32.ofNat (k + 1))) 183 0 x) = (fun y => zgA (zsA w 183 0 b (zgA w 183 0 b - 1)) 183 0 y) := by
        funext x
        rw [zgA_sI, zgA_sA, if_neg (by simp)]
      have f2 : (fun i => zgA (zsI (zsA (zsA w 183 0 b (zgA w 183 0 b - 1)) 185 0 k (Int32.ofNat b)) 19 17 0 (Int32.ofNat (k + 1))) 185 0 i) = (fun i => if i = (zgI w 19 17 0).toNatClampNeg then Int32.ofNat b else zgA w 185 0 i) := by
        funext i
        rw [zgA_sI, zA_if, k2, zoC (by omega)]
        by_cases c2 : i = k
        · rw [if_pos c2, if_pos c2]
        · rw [if_neg c2, if_neg c2, zgA_sA, if_neg (by simp)]
      rw [f1, f2, zgI_sI, if_pos ⟨rfl, rfl, rfl⟩]
      exact k3
    · rw [zgA_sI, zgA_sA, if_neg (fun z => n2 z.1), zgA_sA, if_neg (fun z => n1 z.1)]
    · rw [zgI_sI, if_neg (fun y => hk ⟨y.1, y.2.1⟩)]; rfl
theorem zm_dropAdvert {w : St} {b N : Nat} {L : List Nat} (hl : L.length < 1000000) (h : zRc (fun x => zgA w 179 0 x) (fun i => zgA w 180 0 i) (zgI w 19 11 0) 2400 (b :: L)) : ∃ w', fX19_dropAdvert N 0 (Int32.ofNat b) w = some (0, w') ∧ zRc (fun x => zgA w' 179 0 x) (fun i => zgA w' 180 0 i) (zgI w' 19 11 0) 2400 L ∧ (∀ k o i, k ≠ 179 → k ≠ 180 → zgA w' k o i = zgA w k o i) ∧ (∀ k j o, ¬ (k = 19 ∧ j = 11) → zgI w' k j o = zgI w k j o) ∧ (∀ k o i, zgL w' k o i = zgL w k o i) := by
  have hb := h.1 b List.mem_cons_self
  obtain ⟨e1, hcase⟩ := zRc_less (held1 := fun y => zgA (zsA w 179 0 b (zgA w 179 0 b - 1)) 179 0 y) h hl (fun y => zA_if y)
  unfold fX19_dropAdvert
  rw [zkk (by omega) (by omega), zkk (by omega) (by omega), zoC (by omega), zl_e, zkk (by omega) (by omega)]
  rcases hcase with ⟨c, hz, hr⟩ | ⟨c, hz⟩
  · rw [if_pos hz]
    exact ⟨_, rfl, hr, fun k o i n1 _ => by rw [zgA_sA, if_neg (fun z => n1 z.1)], fun _ _ _ _ => rfl, fun _ _ _ => rfl⟩
  · rw [if_neg (fun q => q hz)]
    obtain ⟨k, k1, k2, k3⟩ := zRc_free1 (held' := fun y => zgA (zsA w 179 0 b (zgA w 179 0 b - 1)) 179 0 y) (free' := fun i => if i = (zgI w 19 11 0).toNatClampNeg then Int32.ofNat b else zgA w 180 0 i) h c (fun y => zA_if y) (by omega) (fun k hk _ i => by rw [hk, zoC (by omega)])
    have e17 : zgI (zsA w 179 0 b (zgA w 179 0 b - 1)) 19 11 0 = Int32.ofNat k := k2
    rw [e17, zkk (by omega) (by omega), zl_e, zoC (by omega), zl_e]
    have e18 : zgI (zsA (zsA w 179 0 b (zgA w 179 0 b - 1)) 180 0 k (Int32.ofNat b)) 19 11 0 = Int32.ofNat k := k2
    rw [e18, zo_i1]
    refine ⟨_, rfl, ?_, fun k' o i n1 n2 => ?_, fun k' j o hk => ?_, fun _ _ _ => rfl⟩
    · have f1 : (fun x => zgA (zsI (zsA (zsA w 179 0 b (zgA w 179 0 b - 1)) 180 0 k (Int32.ofNat b)) 19 11 0 (Int32.ofNat (k + 1))) 179 0 x) = (fun y => zgA (zsA w 179 0 b (zgA w 179 0 b - 1)) 179 0 y) := by
        funext x
        rw [zgA_sI, zgA_sA, if_neg (by simp)]
      have f2 : (fun i => zgA (zsI (zsA (zsA w 179 0 b (zgA w 179 0 b - 1)) 180 0 k (Int32.ofNat b)) 19 11 0 (Int32.ofNat (k + 1))) 180 0 i) = (fun i => if i = (zgI w 19 11 0).toNatClampNeg then Int32.ofNat b else zgA w 180 0 i) := by
        funext i
        rw [zgA_sI, zA_if, k2, zoC (by omega)]
        by_cases c2 : i = k
        · rw [if_pos c2, if_pos c2]
        · rw [if_neg c2, if_neg c2, zgA_sA, if_neg (by simp)]
      rw [f1, f2, zgI_sI, if_pos ⟨rfl, rfl, rfl⟩]
      exact k3
    · rw [zgA_sI, zgA_sA, if_neg (fun z => n2 z.1), zgA_sA, if_neg (fun z => n1 z.1)]
    · rw [zgI_sI, if_neg (fun y => hk ⟨y.1, y.2.1⟩)]; rfl
theorem zmu10 {a k : Nat} : ((10 : Int32) * Int32.ofNat a) + Int32.ofNat k = Int32.ofNat (10 * a + k) := by
  rw [show (10 : Int32) * Int32.ofNat a = Int32.ofNat (10 * a) from (Int32.ofNat_mul 10 a).symm, zo_add]
theorem zm_seg {w : St} {s k N : Nat} (hs : s < 2400) (hk : k < 10) : fX19_seg N 0 (Int32.ofNat s) (Int32.ofNat k) w = some (msg w s k, w) := by
  unfold fX19_seg msg
  rw [zmu10, zkk (by omega) (by omega), zoC (by omega)]
def zbkOf (w : St) (s : Nat) : List Nat := if msg w s 8 = -1 then [] else [(msg w s 8).toNatClampNeg]
/-- the books held by segments, one more held for the first time -/
theorem zbks_cons {w : St} {s : Nat} {L : List Nat} (hs : s < 2400) (hn : s ∉ L) : (zbks w (s :: L)).Perm (zbkOf w s ++ zbks w L) := by
  obtain ⟨A, B, hAB⟩ := List.append_of_mem (List.mem_range.mpr hs)
  have hnd : (A ++ s :: B).Nodup := by rw [← hAB]; exact List.nodup_range
  have hA : s ∉ A := fun m => (List.nodup_append.mp hnd).2.2 s m s (by simp) rfl
  have hB : s ∉ B := (List.nodup_cons.mp (List.nodup_append.mp hnd).2.1).1
  have hcg : ∀ (l : List Nat), s ∉ l → l.filterMap (fun t => if (s :: L).count t = 0 then none else if msg w t 8 = -1 then none else some (msg w t 8).toNatClampNeg) = l.filterMap (fun t => if L.count t = 0 then none else if msg w t 8 = -1 then none else some (msg w t 8).toNatClampNeg) := fun l hl => zfm_cg (fun t ht => by
    rw [List.count_cons_of_ne (fun e => hl (by rw [e]; exact ht))])
  have h0 : L.count s = 0 := List.count_eq_zero.mpr hn
  unfold zbks zbkOf
  rw [hAB, List.filterMap_append, List.filterMap_append, hcg A hA, List.filterMap_cons, List.filterMap_cons, hcg B hB, List.count_cons_self, h0, if_neg (by omega), if_pos rfl]
  by_cases c : msg w s 8 = -1
  · rw [if_pos c, if_pos c]
    exact List.Perm.refl _
  · rw [if_neg c, if_neg c]
    exact List.perm_middle
theorem zbks_len (w : St) (L : List Nat) : (zbks w L).length ≤ 2400 := by
  unfold zbks
  have := List.length_filterMap_le (fun s => if L.count s = 0 then none else if msg w s 8 = -1 then none else some (msg w s 8).toNatClampNeg) (List.range 2400)
  simpa using this
theorem zm_dropSegment {w : St} {s N : Nat} {L TB : List Nat} (hl : L.length < 1000000) (hlB : TB.length < 10000) (h : zRc (fun x => zgA w 176 0 x) (fun i => zgA w 177 0 i) (zgI w 19 7 0) 2400 (s :: L)) (hB : zRc (fun x => zgA w 183 0 x) (fun i => zgA w 185 0 i) (zgI w 19 17 0) 2592 (zbks w (s :: L) ++ TB)) (hix : zIx (msg w s 8) 2592) : ∃ w', fX19_dropSegment N 0 (Int32.ofNat s) w = some (0, w') ∧ zRc (fun x => zgA w' 176 0 x) (fun i => zgA w' 177 0 i) (zgI w' 19 7 0) 2400 L ∧ zRc (fun x => zgA w' 183 0 x) (fun i => zgA w' 185 0 i) (zgI w' 19 17 0) 2592 (zbks w' L ++ TB) ∧ (∀ k o i, k ≠ 176 → k ≠ 177 → k ≠ 183 → k ≠ 185 → zgA w' k o i = zgA w k o i) ∧ (∀ k j o, ¬ (k = 19 ∧ (j = 7 ∨ j = 17)) → zgI w' k j o = zgI w k j o) ∧ (∀ k o i, zgL w' k o i = zgL w k o i) := by
  have hs := h.1 s List.mem_cons_self
  obtain ⟨e1, hcase⟩ := zRc_less (held1 := fun y => zgA (zsA w 176 0 s (zgA w 176 0 s - 1)) 176 0 y) h hl (fun y => zA_if y)
  unfold fX19_dropSegment
  rw [zkk (by omega) (by omega), zkk (by omega) (by omega), zoC (by omega), zl_e, zkk (by omega) (by omega)]
  rcases hcase with ⟨c, hz, hr⟩ | ⟨c, hz⟩
  · rw [if_pos hz]
    have a1 : ∀ k o i, k ≠ 176 → zgA (zsA w 176 0 s (zgA w 176 0 s - 1)) k o i = zgA w k o i := fun k o i n1 => by rw [zgA_sA, if_neg (fun z => n1 z.1)]
    refine ⟨_, rfl, hr, ?_, fun k o i n1 _ _ _ => a1 k o i n1, fun _ _ _ _ => rfl, fun _ _ _ => rfl⟩
    have f1 : (fun x => zgA (zsA w 176 0 s (zgA w 176 0 s - 1)) 183 0 x) = (fun x => zgA w 183 0 x) := funext (fun x => a1 183 0 x (by simp))
    have f2 : (fun x => zgA (zsA w 176 0 s (zgA w 176 0 s - 1)) 185 0 x) = (fun x => zgA w 185 0 x) := funext (fun x => a1 185 0 x (by simp))
    rw [f1, f2, zbks_cg (w := w) (L := s :: L) (fun t _ => ?_) (fun t _ _ => a1 174 0 _ (by simp))]
    · exact hB
    · by_cases q : t = s
      · subst q
        rw [List.count_cons_self]
        have : 0 < L.count t := List.count_pos_iff.mpr c
        constructor <;> intro y <;> omega
      · rw [List.count_cons_of_ne (fun e => q e.symm)]
  · rw [if_neg (fun q => q hz), show (8 : Int32) = Int32.ofNat 8 from rfl, zm_seg hs (by omega), zc_e]
    have a1 : ∀ k o i, k ≠ 176 → zgA (zsA w 176 0 s (zgA w 176 0 s - 1)) k o i = zgA w k o i := fun k o i n1 => by rw [zgA_sA, if_neg (fun z => n1 z.1)]
    have em : msg (zsA w 176 0 s (zgA w 176 0 s - 1)) s 8 = msg w s 8 := a1 174 0 _ (by simp)
    have f1 : (fun x => zgA (zsA w 176 0 s (zgA w 176 0 s - 1)) 183 0 x) = (fun x => zgA w 183 0 x) := funext (fun x => a1 183 0 x (by simp))
    have f2 : (fun x => zgA (zsA w 176 0 s (zgA w 176 0 s - 1)) 185 0 x) = (fun x => zgA w 185 0 x) := funext (fun x => a1 185 0 x (by simp))
    have hB1 := zRc_perm ((zbks_cons hs c).append_right TB) hB
    have i17 : zgI (zsA w 176 0 s (zgA w 176 0 s - 1)) 19 17 0 = zgI w 19 17 0 := rfl
    -- the book
    have book : ∃ w2, fX19_dropBook N 0 (msg w s 8) (zsA w 176 0 s (zgA w 176 0 s - 1)) = some (0, w2) ∧ zRc (fun x => zgA w2 183 0 x) (fun i => zgA w2 185 0 i) (zgI w2 19 17 0) 2592 (zbks w L ++ TB) ∧ (∀ k o i, k ≠ 183 → k ≠ 185 → zgA w2 k o i = zgA (zsA w 176 0 s (zgA w 176 0 s - 1)) k o i) ∧ (∀ k j o, ¬ (k = 19 ∧ j = 17) → zgI w2 k j o = zgI w k j o) ∧ (∀ k o i, zgL w2 k o i = zgL w k o i) := by
      by_cases c8 : msg w s 8 = -1
      · rw [c8]
        unfold fX19_dropBook
        rw [if_pos rfl]
        refine ⟨_, rfl, ?_, fun _ _ _ _ _ => rfl, fun _ _ _ _ => rfl, fun _ _ _ => rfl⟩
        rw [f1, f2, i17]
        have : zbkOf w s = [] := by unfold zbkOf; rw [if_pos c8]
        rw [this, List.nil_append] at hB1
        exact hB1
      · obtain ⟨b, hb, eb⟩ := zIx_lt hix c8
        have : zbkOf w s = [b] := by unfold zbkOf; rw [if_neg c8, eb, zoC (by omega)]
        rw [this, List.singleton_append, List.cons_append] at hB1
        have hB2 : zRc (fun x => zgA (zsA w 176 0 s (zgA w 176 0 s - 1)) 183 0 x) (fun i => zgA (zsA w 176 0 s (zgA w 176 0 s - 1)) 185 0 i) (zgI (zsA w 176 0 s (zgA w 176 0 s - 1)) 19 17 0) 2592 (b :: (zbks w L ++ TB)) := by
          rw [f1, f2, i17]; exact hB1
        have hlen : (zbks w L ++ TB).length < 1000000 := by
          rw [List.length_append]
          have := zbks_len w L
          omega
        rw [eb]
        obtain ⟨w2, r1, r2, r3, r4, r5⟩ := zm_dropBook (N := N) hlen hB2
        exact ⟨w2, r1, r2, r3, r4, r5⟩
    obtain ⟨w2, r1, r2, r3, r4, r5⟩ := book
    rw [em, r1, zc_e]
    have h2 : zRc (fun x => zgA w 176 0 x) (fun i => zgA w 177 0 i) (zgI w 19 7 0) 2400 (s :: L) := h
    obtain ⟨k, k1, k2, k3⟩ := zRc_free1 (held' := fun y => zgA (zsA w 176 0 s (zgA w 176 0 s - 1)) 176 0 y) (free' := fun i => if i = (zgI w 19 7 0).toNatClampNeg then Int32.ofNat s else zgA w 177 0 i) h c (fun y => zA_if y) (by omega) (fun k hk _ i => by rw [hk, zoC (by omega)])
    have e7 : zgI w2 19 7 0 = Int32.ofNat k := (r4 19 7 0 (by simp)).trans k2
    rw [e7, zkk (by omega) (by omega), zl_e, zoC (by omega), zl_e]
    have e8 : zgI (zsA w2 177 0 k (Int32.ofNat s)) 19 7 0 = Int32.ofNat k := e7
    rw [e8, zo_i1]
    refine ⟨_, rfl, ?_, ?_, fun k' o i n1 n2 n3 n4 => ?_, fun k' j o hk => ?_, fun k' o i => r5 k' o i⟩
    · have g1 : (fun x => zgA (zsI (zsA w2 177 0 k (Int32.ofNat s)) 19 7 0 (Int32.ofNat (k + 1))) 176 0 x) = (fun y => zgA (zsA w 176 0 s (zgA w 176 0 s - 1)) 176 0 y) := by
        funext x
        rw [zgA_sI, zgA_sA, if_neg (by simp), r3 176 0 x (by simp) (by simp)]
      have g2 : (fun i => zgA (zsI (zsA w2 177 0 k (Int32.ofNat s)) 19 7 0 (Int32.ofNat (k + 1))) 177 0 i) = (fun i => if i = (zgI w 19 7 0).toNatClampNeg then Int32.ofNat s else zgA w 177 0 i) := by
        funext i
        rw [zgA_sI, zA_if, k2, zoC (by omega)]
        by_cases c2 : i = k
        · rw [if_pos c2, if_pos c2]
        · rw [if_neg c2, if_neg c2, r3 177 0 i (by simp) (by simp), a1 177 0 i (by simp)]
      rw [g1, g2, zgI_sI, if_pos ⟨rfl, rfl, rfl⟩]
      exact k3
    · have g1 : (fun x => zgA (zsI (zsA w2 177 0 k (Int32.ofNat s)) 19 7 0 (Int32.ofNat (k + 1))) 183 0 x) = (fun y => zgA w2 183 0 y) := by
        funext x
        rw [zgA_sI, zgA_sA, if_neg (by simp)]
      have g2 : (fun x => zgA (zsI (zsA w2 177 0 k (Int32.ofNat s)) 19 7 0 (Int32.ofNat (k + 1))) 185 0 x) = (fun y => zgA w2 185 0 y) := by
        funext x
        rw [zgA_sI, zgA_sA, if_neg (by simp)]
      rw [g1, g2, zgI_sI, if_neg (by simp), zbks_cg (w := w) (L := L) (fun t _ => Iff.rfl) (fun t _ _ => ?_)]
      · exact r2
      · show zgA (zsI (zsA w2 177 0 k (Int32.ofNat s)) 19 7 0 (Int32.ofNat (k + 1))) 174 0 (10 * t + 8) = zgA w 174 0 (10 * t + 8)
        rw [zgA_sI, zgA_sA, if_neg (by simp), r3 174 0 _ (by simp) (by simp), a1 174 0 _ (by simp)]
    · rw [zgA_sI, zgA_sA, if_neg (fun z => n2 z.1), r3 k' o i n3 n4, a1 k' o i n1]
    · rw [zgI_sI, if_neg (fun y => hk ⟨y.1, Or.inl y.2.1⟩)]
      exact r4 k' j o (fun y => hk ⟨y.1, Or.inr y.2⟩)
/-- a datagram is dropped -/
theorem zm_drop {w : St} {H TS TA TB : List Nat} {d N : Nat} (h : zMp w (d :: H) TS TA TB) : ∃ w', fX19_drop N 0 (Int32.ofNat d) w = some (0, w') ∧ zMp w' H TS TA TB ∧ (∀ k o i, k ≠ 173 → k ≠ 176 → k ≠ 177 → k ≠ 179 → k ≠ 180 → k ≠ 183 → k ≠ 185 → zgA w' k o i = zgA w k o i) ∧ (∀ k j o, ¬ (k = 19 ∧ (j = 2 ∨ j = 7 ∨ j = 11 ∨ j = 17)) → zgI w' k j o = zgI w k j o) ∧ (∀ k o i, zgL w' k o i = zgL w k o i) := by
  obtain ⟨⟨h1, h2, h3, hbd⟩, h4, h5, h6, h7, h8⟩ := h
  have hd := h2 d List.mem_cons_self
  obtain ⟨hdH, hHn⟩ := List.nodup_cons.mp h1
  have hix := h4 d List.mem_cons_self
  have hHl : H.length ≤ 2400 := by
    have := zlen_sub hHn (b := List.range 2400) (fun x hx => List.mem_range.mpr (h2 x (List.mem_cons_of_mem _ hx)))
    simpa using this
  have hSl : (H.filterMap (mgs w) ++ TS).length < 1000000 := by
    rw [List.length_append]
    have := List.length_filterMap_le (mgs w) H
    omega
  have hAl : (H.filterMap (mga w) ++ TA).length < 1000000 := by
    rw [List.length_append]
    have := List.length_filterMap_le (mga w) H
    omega
  -- the segment
  have segP : ∃ w1, fX19_drop N 0 (Int32.ofNat d) w = fX19_drop_22 N 0 (Int32.ofNat d) w1 ∧ zRc (fun x => zgA w1 176 0 x) (fun i => zgA w1 177 0 i) (zgI w1 19 7 0) 2400 (H.filterMap (mgs w) ++ TS) ∧ zRc (fun x => zgA w1 183 0 x) (fun i => zgA w1 185 0 i) (zgI w1 19 17 0) 2592 (zbks w1 (H.filterMap (mgs w) ++ TS) ++ TB) ∧ (∀ k o i, k ≠ 176 → k ≠ 177 → k ≠ 183 → k ≠ 185 → zgA w1 k o i = zgA w k o i) ∧ (∀ k j o, ¬ (k = 19 ∧ (j = 7 ∨ j = 17)) → zgI w1 k j o = zgI w k j o) ∧ (∀ k o i, zgL w1 k o i = zgL w k o i) := by
    unfold fX19_drop
    rw [show (10 : Int32) = Int32.ofNat 10 from rfl, zm_of hd (by omega), zc_e]
    by_cases c : md w d 10 = -1
    · rw [if_pos c]
      have : mgs w d = none := by unfold mgs; rw [if_pos c]
      rw [List.filterMap_cons_none this] at h5 h7
      exact ⟨w, rfl, h5, h7, fun _ _ _ _ _ _ _ => rfl, fun _ _ _ _ => rfl, fun _ _ _ => rfl⟩
    · rw [if_neg c, zm_of hd (by omega), zc_e]
      obtain ⟨s, hs, es⟩ := zIx_lt hix.1 c
      have hms : mgs w d = some s := mgs_of es hs
      rw [List.filterMap_cons_some hms, List.cons_append] at h5 h7
      obtain ⟨w1, r1, r2, r3, r4, r5, r6⟩ := zm_dropSegment (N := N) hSl (by omega) h5 h7 (h8 s (by rw [List.filterMap_cons_some hms]; simp))
      rw [es, r1, zc_e]
      exact ⟨w1, rfl, r2, r3, r4, r5, r6⟩
  obtain ⟨w1, e1, s1, s2, s3, s4, s5⟩ := segP
  have m1 : ∀ e k, md w1 e k = md w e k := fun e k => s3 172 0 _ (by simp) (by simp) (by simp) (by simp)
  have h6' : zRc (fun x => zgA w1 179 0 x) (fun i => zgA w1 180 0 i) (zgI w1 19 11 0) 2400 ((d :: H).filterMap (mga w) ++ TA) := by
    have f1 : (fun x => zgA w1 179 0 x) = (fun x => zgA w 179 0 x) := funext (fun x => s3 179 0 x (by simp) (by simp) (by simp) (by simp))
    have f2 : (fun x => zgA w1 180 0 x) = (fun x => zgA w 180 0 x) := funext (fun x => s3 180 0 x (by simp) (by simp) (by simp) (by simp))
    rw [f1, f2, s4 19 11 0 (by simp)]
    exact h6
  have advP : ∃ w2, fX19_drop_22 N 0 (Int32.ofNat d) w1 = fX19_drop_44 N 0 (Int32.ofNat d) w2 ∧ zRc (fun x => zgA w2 179 0 x) (fun i => zgA w2 180 0 i) (zgI w2 19 11 0) 2400 (H.filterMap (mga w) ++ TA) ∧ (∀ k o i, k ≠ 179 → k ≠ 180 → zgA w2 k o i = zgA w1 k o i) ∧ (∀ k j o, ¬ (k = 19 ∧ j = 11) → zgI w2 k j o = zgI w1 k j o) ∧ (∀ k o i, zgL w2 k o i = zgL w1 k o i) := by
    unfold fX19_drop_22
    rw [show (11 : Int32) = Int32.ofNat 11 from rfl, zm_of hd (by omega), zc_e, m1]
    by_cases c : md w d 11 = -1
    · rw [if_pos c]
      have : mga w d = none := by unfold mga; rw [if_pos c]
      rw [List.filterMap_cons_none this] at h6'
      exact ⟨w1, rfl, h6', fun _ _ _ _ _ => rfl, fun _ _ _ _ => rfl, fun _ _ _ => rfl⟩
    · rw [if_neg c, zm_of hd (by omega), zc_e, m1]
      obtain ⟨s, hs, es⟩ := zIx_lt hix.2 c
      have hms : mga w d = some s := mga_of es hs
      rw [List.filterMap_cons_some hms, List.cons_append] at h6'
      obtain ⟨w2, r1, r2, r3, r4, r5⟩ := zm_dropAdvert (N := N) hAl h6'
      rw [es, r1, zc_e]
      exact ⟨w2, rfl, r2, r3, r4, r5⟩
  obtain ⟨w2, e2, a1, a2, a3, a4⟩ := advP
  rw [e1, e2]
  unfold fX19_drop_44
  have i2 : zgI w2 19 2 0 = zgI w 19 2 0 := (a3 19 2 0 (by simp)).trans (s4 19 2 0 (by simp))
  have f173 : ∀ i, zgA w2 173 0 i = zgA w 173 0 i := fun i => (a2 173 0 i (by simp) (by simp)).trans (s3 173 0 i (by simp) (by simp) (by simp) (by simp))
  obtain ⟨k, k1, k2, k3⟩ := zFs_push (p' := fun x => x ∉ H) (free' := fun i => if i = (zgI w 19 2 0).toNatClampNeg then Int32.ofNat d else zgA w 173 0 i) h3 hd (fun y => y List.mem_cons_self) (fun y => by
    rw [List.mem_cons]
    constructor
    · intro q
      by_cases e : y = d
      · exact Or.inr e
      · exact Or.inl (fun z => by rcases z with z | z; exact e z; exact q z)
    · rintro (q | rfl)
      · exact fun z => q (Or.inr z)
      · exact hdH) (fun k hk _ i => by rw [hk, zoC (by omega)]) (by omega)
  rw [i2, k2, zkk (by omega) (by omega), zl_e, zoC (by omega), zl_e]
  have e3 : zgI (zsA w2 173 0 k (Int32.ofNat d)) 19 2 0 = Int32.ofNat k := i2.trans k2
  rw [e3, zo_i1]
  have mm : ∀ e k', md (zsI (zsA w2 173 0 k (Int32.ofNat d)) 19 2 0 (Int32.ofNat (k + 1))) e k' = md w e k' := fun e k' => by
    unfold md
    rw [zgA_sI, zgA_sA, if_neg (by simp), a2 172 0 _ (by simp) (by simp)]
    exact m1 e k'
  have gs : mgs (zsI (zsA w2 173 0 k (Int32.ofNat d)) 19 2 0 (Int32.ofNat (k + 1))) = mgs w := by
    funext e; unfold mgs; rw [mm]
  have ga : mga (zsI (zsA w2 173 0 k (Int32.ofNat d)) 19 2 0 (Int32.ofNat (k + 1))) = mga w := by
    funext e; unfold mga; rw [mm]
  have A3 : ∀ k' o i, k' ≠ 173 → zgA (zsI (zsA w2 173 0 k (Int32.ofNat d)) 19 2 0 (Int32.ofNat (k + 1))) k' o i = zgA w2 k' o i := fun k' o i n1 => by rw [zgA_sI, zgA_sA, if_neg (fun z => n1 z.1)]
  have I3 : ∀ k' j o, ¬ (k' = 19 ∧ j = 2) → zgI (zsI (zsA w2 173 0 k (Int32.ofNat d)) 19 2 0 (Int32.ofNat (k + 1))) k' j o = zgI w2 k' j o := fun k' j o hk => by rw [zgI_sI, if_neg (fun y => hk ⟨y.1, y.2.1⟩)]; rfl
  refine ⟨_, rfl, ⟨⟨hHn, fun e he => h2 e (List.mem_cons_of_mem _ he), ?_, hbd⟩, fun e he => ?_, ?_, ?_, ?_, fun s hs => ?_⟩, fun k' o i n1 n2 n3 n4 n5 n6 n7 => ?_, fun k' j o hk => ?_, fun k' o i => ?_⟩
  · have f1 : (fun i => zgA (zsI (zsA w2 173 0 k (Int32.ofNat d)) 19 2 0 (Int32.ofNat (k + 1))) 173 0 i) = (fun i => if i = (zgI w 19 2 0).toNatClampNeg then Int32.ofNat d else zgA w 173 0 i) := by
      funext i
      rw [zgA_sI, zA_if, k2, zoC (by omega)]
      by_cases c2 : i = k
      · rw [if_pos c2, if_pos c2]
      · rw [if_neg c2, if_neg c2, f173]
    rw [f1, zgI_sI, if_pos ⟨rfl, rfl, rfl⟩]
    exact k3
  · rw [mm, mm]; exact h4 e (List.mem_cons_of_mem _ he)
  · rw [gs]
    have f1 : (fun x => zgA (zsI (zsA w2 173 0 k (Int32.ofNat d)) 19 2 0 (Int32.ofNat (k + 1))) 176 0 x) = (fun x => zgA w1 176 0 x) := funext (fun x => (A3 176 0 x (by simp)).trans (a2 176 0 x (by simp) (by simp)))
    have f2 : (fun x => zgA (zsI (zsA w2 173 0 k (Int32.ofNat d)) 19 2 0 (Int32.ofNat (k + 1))) 177 0 x) = (fun x => zgA w1 177 0 x) := funext (fun x => (A3 177 0 x (by simp)).trans (a2 177 0 x (by simp) (by simp)))
    rw [f1, f2, I3 19 7 0 (by simp), a3 19 7 0 (by simp)]
    exact s1
  · rw [ga]
    have f1 : (fun x => zgA (zsI (zsA w2 173 0 k (Int32.ofNat d)) 19 2 0 (Int32.ofNat (k + 1))) 179 0 x) = (fun x => zgA w2 179 0 x) := funext (fun x => A3 179 0 x (by simp))
    have f2 : (fun x => zgA (zsI (zsA w2 173 0 k (Int32.ofNat d)) 19 2 0 (Int32.ofNat (k + 1))) 180 0 x) = (fun x => zgA w2 180 0 x) := funext (fun x => A3 180 0 x (by simp))
    rw [f1, f2, I3 19 11 0 (by simp)]
    exact a1
  · rw [gs]
    have f1 : (fun x => zgA (zsI (zsA w2 173 0 k (Int32.ofNat d)) 19 2 0 (Int32.ofNat (k + 1))) 183 0 x) = (fun x => zgA w1 183 0 x) := funext (fun x => (A3 183 0 x (by simp)).trans (a2 183 0 x (by simp) (by simp)))
    have f2 : (fun x => zgA (zsI (zsA w2 173 0 k (Int32.ofNat d)) 19 2 0 (Int32.ofNat (k + 1))) 185 0 x) = (fun x => zgA w1 185 0 x) := funext (fun x => (A3 185 0 x (by simp)).trans (a2 185 0 x (by simp) (by simp)))
    rw [f1, f2, I3 19 17 0 (by simp), a3 19 17 0 (by simp), zbks_cg (w := w1) (L := H.filterMap (mgs w) ++ TS) (fun t _ => Iff.rfl) (fun t _ _ => (A3 174 0 _ (by simp)).trans (a2 174 0 _ (by simp) (by simp)))]
    exact s2
  · rw [gs] at hs
    have e : msg (zsI (zsA w2 173 0 k (Int32.ofNat d)) 19 2 0 (Int32.ofNat (k + 1))) s 8 = msg w s 8 := (A3 174 0 _ (by simp)).trans ((a2 174 0 _ (by simp) (by simp)).trans (s3 174 0 _ (by simp) (by simp) (by simp) (by simp)))
    rw [e]
    refine h8 s ?_
    cases hm : mgs w d with
    | none => rw [List.filterMap_cons_none hm]; exact hs
    | some x => rw [List.filterMap_cons_some hm]; exact List.mem_cons_of_mem _ hs
  · rw [A3 k' o i n1, a2 k' o i n4 n5, s3 k' o i n2 n3 n6 n7]
  · rw [I3 k' j o (fun y => hk ⟨y.1, Or.inl y.2⟩), a3 k' j o (fun y => hk ⟨y.1, Or.inr (Or.inr (Or.inl y.2))⟩), s4 k' j o (fun y => hk ⟨y.1, by rcases y.2 with q | q; exact Or.inr (Or.inl q); exact Or.inr (Or.inr (Or.inr q))⟩)]
  · show zgL w2 k' o i = _
    rw [a4, s5]
