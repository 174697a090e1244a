/-! routers: who was silent is forgotten, both sides -/
theorem hSil_sub {T : Tp} {E : Ev} {b : Nat} {H : List Nb} {n : Nb} (h : n ∈ hSil T E b H) : n ∈ H := (List.mem_filter.mp h).1
theorem zHn_sil {T : Tp} {E : Ev} {b : Nat} {H : List Nb} (h : zHn H) : zHn (hSil T E b H) := by
  refine ⟨⟨fun n hn => h.1.1 n (hSil_sub hn), ?_, Nat.le_trans (List.length_filter_le _ _) h.1.2.2⟩, fun n hn => h.2 n (hSil_sub hn)⟩
  exact List.Pairwise.filter _ h.1.2.1
theorem zRw_sil {T : Tp} {E : Ev} {b : Nat} {s : Rs} (h : zRw T E b s) : zRw T E b (hSil T E b (rH s), s.2) := by
  refine zRw_up h (zHn_sil h.1) (fun n hn => ?_) ⟨h.2.2.1.1, fun e he => Or.inl he⟩ h.2.2.2.1 h.2.2.2.2
  have hm : n ∈ rH s := hSil_sub hn
  obtain ⟨-, -, -, -, -, w6, w7, w8⟩ := h.2.1 n hm
  exact ⟨Or.inl ⟨n, hm, rfl⟩, ⟨w6, w7⟩, w8⟩
theorem zp_forget {z w : St} {T : Tp} {E : Ev} {K : Int32 → Int32 → Int32 → Prop} {g : Sg} {X TS TB : List Nat} {b N : Nat} {s : Rs} (hT : zTC z T) (hE : zEc z T E) (hE4 : eN E ≤ 400000) (hb : b < tb T) (hr : tr T b = true) (hV : zMV w T E g K X TS (zTA w T) TB) (hR : zRp z w T E b s) (h23 : zgI w 12 23 b = 0 ∨ zgI w 12 23 b = 1) (hN : 16 < N) :
    ∃ z' w', fX11_forgetSilent N 0 b z = some (0, z') ∧ fX19_neighbours N b (Int32.ofNat (eN E)) w = some (0, w') ∧ zRp z' w' T E b (hSil T E b (rH s), s.2) ∧ zMV w' T E g K X TS (zTA w' T) TB ∧
      ((∀ k j o, ¬ (k = 9 ∧ (j = 1 ∨ j = 5 ∨ j = 10) ∧ o = b) → zgI z' k j o = zgI z k j o) ∧ (zgI z' 9 10 b = zgI z 9 10 b ∨ zgI z' 9 10 b = 1) ∧ ((∀ key, fn (hSil T E b (rH s)) key = fn (rH s) key) ∨ zgI z' 9 10 b = 1) ∧ (∀ k o i, ¬ (k = 135 ∧ b * 96 ≤ o ∧ o < b * 96 + 96) → ¬ ((k = 131 ∨ k = 132 ∨ k = 133) ∧ o = b) → zgA z' k o i = zgA z k o i) ∧ zKr b z z') ∧
      ((∀ k j o, ¬ (k = 12 ∧ (j = 13 ∨ j = 23 ∨ j = 24) ∧ o = b) → ¬ (k = 18 ∧ j = 5 ∧ ∃ i, i < tp T b ∧ o = tq T b i) → zgI w' k j o = zgI w k j o) ∧ (∀ k o j, zgA w' k o j = zgA w k o j) ∧ (∀ k o j, zgL w' k o j = zgL w k o j) ∧ (∀ k o j, ¬ (k = 149 ∧ o = b) → zgQ w' k o j = zgQ w k o j) ∧ (∀ k o j, zgR w' k o j = zgR w k o j) ∧ (∀ j, j < tp T b → zgI w' 18 5 (tq T b j) = zbi (eU E (tq T b j / 8))) ∧
        ((zgI w' 12 24 b = zgI w 12 24 b ∧ (∀ j, j < tp T b → zgI w 18 5 (tq T b j) = zbi (eU E (tq T b j / 8))) ∧ ∀ key, fn (hSil T E b (rH s)) key = fn (rH s) key) ∨ zgI w' 12 24 b = 1) ∧ ((zgI w' 12 23 b = zgI w 12 23 b ∧ ∀ j, j < tp T b → zgI w 18 5 (tq T b j) = zbi (eU E (tq T b j / 8))) ∨ zgI w' 12 23 b = 1)) := by
  have hc := hV.2.1
  have ht6 := tp_le hc hb
  obtain ⟨hRc, ⟨⟨ids, mN⟩, mT, mB, m16, m17, m18⟩, hRw, hRo, h24⟩ := hR
  obtain ⟨wH, wN, wT, wB, wm⟩ := id hRw
  obtain ⟨cH, cK, cT, cB, c7, c8⟩ := hRc
  obtain ⟨z', s1, s2, s3, s4, s5, s6, s7, s8⟩ := zc_forgetSilent (N := N) hT hc hE hE4 hb hr cH cK wH (fun n hn => ⟨(wN n hn).1, (wN n hn).2.2.2.2.2.2.1⟩) cB wB hN
  obtain ⟨y1, t1, t2, t3, t4, t5, t6, t7, t8, t9⟩ := zm_nbPorts (N := N) (now := Int32.ofNat (eN E)) hV.1 hc hV.2.2.1 hb (tp T b) 0 N w (by omega) (by omega) h24 h23 (fun _ _ _ _ _ => rfl) (fun _ _ _ => rfl) (fun _ _ _ => rfl) (fun _ _ _ => rfl) (fun _ _ _ => rfl) (fun j hj => by omega)
  have f1 : zFr 0x20000000000000000000000000000000000000000000000000000000000000000000000000000000000000000001800000000000000000000000000000000000000000000000000000000000000000000000000000000000000000000000000000000000000000000000000000000000000000000000000000000000000000000000000000000000000000000000000000 w y1 := ⟨fun k j o _ hm => ⟨t5 k j o (fun c => by
    obtain ⟨rfl, h, -⟩ := c
    rcases h with rfl | rfl <;> revert hm <;> decide) (fun c => by
    obtain ⟨rfl, rfl, -⟩ := c
    revert hm; decide), t9 k j o⟩, fun k o i _ => ⟨t6 k o i, t7 k o i, t8 k o i⟩⟩
  have M1 : zRmI y1 b (rH s) ids := zRmI_cg (t5 _ _ _ (by omega) (by omega)) (fun _ => t8 _ _ _) (fun x _ _ => ⟨fun _ _ => t5 _ _ _ (by omega) (by omega), fun k j _ => t6 k x j⟩) mN
  obtain ⟨w', ids', u1, u2, u3, u4, u5, u6, u7, u8, u9⟩ := zm_nbOut (N := N) (zTM_fr f1 (by decide) hV.1) hc hE4 hb hN t2 (rH s) [] ids N y1 (by have := wH.1.2.2; omega) M1 wH.1.2.1 (fun n hn => ⟨(wH.1.1 n hn).1, (wN n hn).1, (wN n hn).2.2.2.2.2.2.1⟩) (fun _ _ _ _ => rfl) (fun _ _ _ => rfl) (fun _ _ _ => rfl) (fun _ _ _ _ => rfl) (fun _ _ _ => rfl)
  rw [List.nil_append] at u2
  rw [List.nil_append, List.nil_append] at u4
  have run : fX19_neighbours N b (Int32.ofNat (eN E)) w = some (0, w') := t1.trans u1
  have I : ∀ k j o, ¬ (k = 12 ∧ (j = 13 ∨ j = 23 ∨ j = 24) ∧ o = b) → ¬ (k = 18 ∧ j = 5 ∧ ∃ i, i < tp T b ∧ o = tq T b i) → zgI w' k j o = zgI w k j o := fun k j o n1 n2 => (u5 k j o (fun y => n1 ⟨y.1, by omega, y.2.2⟩)).trans (t5 k j o (fun y => n1 ⟨y.1, by omega, y.2.2⟩) n2)
  have A : ∀ k o j, zgA w' k o j = zgA w k o j := fun k o j => (u6 k o j).trans (t6 k o j)
  have L : ∀ k o j, zgL w' k o j = zgL w k o j := fun k o j => (u7 k o j).trans (t7 k o j)
  have fw : zFr mX19_neighbours w w' := wX19_neighbours (Nat.and_self _) (zFr_rf _ _) _ _ run
  have TA1 : zTA w' T = zTA w T := zTA_cg (fun c k _ _ => A 150 c k)
  refine ⟨z', w', s1, run, ⟨⟨s2, s3, ?_, ?_, ?_, ?_⟩, ⟨⟨ids', u2⟩, ?_, ?_, ?_, ?_, ?_⟩, zRw_sil hRw, hRo, ?_⟩, ?_, ⟨s4, s5, s6, s7, s8⟩, ⟨I, A, L, fun k o j n => (u8 k o j n).trans (t8 k o j), fun k o j => (u9 k o j).trans (t9 k o j), fun j hj => (u5 18 5 _ (by omega)).trans (t2 j hj), ?_, ?_⟩⟩
  · exact zRCt_cg (s4 9 9 b (by omega)) (fun k i hk => s7 k b i (by omega) (by omega)) cT
  · exact zRCb_cg (fun k i hk => s7 k b i (by omega) (by omega)) (fun o i _ _ => s7 104 o i (by omega) (by omega)) cB
  · exact (s4 0 7 b (by omega)).trans c7
  · exact (s4 0 8 b (by omega)).trans c8
  · exact zRmT_cg (I _ _ _ (by omega) (by omega)) (fun k j _ => A k b j) mT
  · exact zRmB_cg (fun k j _ => A k b j) (fun x _ _ _ _ k _ => A 178 0 _) mB
  · exact (I _ _ _ (by omega) (by omega)).trans m16
  · exact (I _ _ _ (by omega) (by omega)).trans m17
  · exact (I _ _ _ (by omega) (by omega)).trans m18
  · rcases u3 with y | y
    · rw [y]
      rcases t3 with ⟨y', -⟩ | y'
      · rw [y']; exact h24
      · exact Or.inr y'
    · exact Or.inr y
  · rw [TA1]
    exact zMV_fr fw (by decide) L hV
  · rcases u3 with y | y
    · rcases t3 with ⟨y', hp⟩ | y'
      · rcases u4 with v | v
        · exact Or.inl ⟨y.trans y', fun j hj => hp j (Nat.zero_le _) hj, v⟩
        · exact Or.inr v
      · exact Or.inr (y.trans y')
    · exact Or.inr y
  · have e23 : zgI w' 12 23 b = zgI y1 12 23 b := u5 12 23 b (by omega)
    rcases t4 with ⟨y', hp⟩ | y'
    · exact Or.inl ⟨e23.trans y', fun j hj => hp j (Nat.zero_le _) hj⟩
    · exact Or.inr (e23.trans y')
