/-! ends, both sides: a window is told -/
/-- whether a segment tells a newer window -/
def vNew (V : Sv) (told thk : Int32) : Bool := zbf told (vgN V) || (decide (told = vgN V) && ! zbf (vgT V) thk)
theorem zp_win {z w : St} {e x s N : Nat} {V : Sv} (h16 : zgR z 3 16 e = some e) (h18 : zgR z 3 18 e = some e) (hV : zSgC z x V) (hVm : zSgM w s V) (hs : zRs z w e) (ho : zRo z w e) (hi : zRi z w e) (ht : zRt z w e) :
    ∃ z' w', fX3_takeWindow N e x (vgT V) z = some (0, z') ∧ fX19_arriveThanks_27 N 0 e (Int32.ofNat s) (vgT V) w = fX19_arriveThanks_195 N 0 e w' ∧ zRs z' w' e ∧ zRo z' w' e ∧ zRi z' w' e ∧ zRt z' w' e ∧
      (∀ k j u, ¬ (((k = 6 ∧ (j = 11 ∨ j = 12 ∨ j = 13)) ∨ (k = 10 ∧ j ≤ 1) ∨ (k = 3 ∧ j = 12)) ∧ u = e) → zgI z' k j u = zgI z k j u) ∧ (∀ k u i, zgA z' k u i = zgA z k u i) ∧ zEc1 e z z' ∧
      (∀ j, ¬ (j = 11 ∨ j = 12 ∨ j = 13 ∨ j = 31 ∨ j = 33 ∨ j = 36) → zgI w' 14 j e = zgI w 14 j e) ∧ (∀ k u i, zgA w' k u i = zgA w k u i) ∧ zEm1 e w w' ∧ (zgI z' 6 11 e = zgI z 6 11 e ∨ zgI z' 6 11 e = vgW V) ∧ (¬ zgI z' 10 0 e = 0 → ¬ zgI z 10 0 e = 0) := by
  have fo := ho.1
  have same : ∃ z' w', some ((0 : Int32), z) = some (0, z') ∧ fX19_arriveThanks_195 N 0 e w = fX19_arriveThanks_195 N 0 e w' ∧ zRs z' w' e ∧ zRo z' w' e ∧ zRi z' w' e ∧ zRt z' w' e ∧
      (∀ k j u, ¬ (((k = 6 ∧ (j = 11 ∨ j = 12 ∨ j = 13)) ∨ (k = 10 ∧ j ≤ 1) ∨ (k = 3 ∧ j = 12)) ∧ u = e) → zgI z' k j u = zgI z k j u) ∧ (∀ k u i, zgA z' k u i = zgA z k u i) ∧ zEc1 e z z' ∧
      (∀ j, ¬ (j = 11 ∨ j = 12 ∨ j = 13 ∨ j = 31 ∨ j = 33 ∨ j = 36) → zgI w' 14 j e = zgI w 14 j e) ∧ (∀ k u i, zgA w' k u i = zgA w k u i) ∧ zEm1 e w w' ∧ (zgI z' 6 11 e = zgI z 6 11 e ∨ zgI z' 6 11 e = vgW V) ∧ (¬ zgI z' 10 0 e = 0 → ¬ zgI z 10 0 e = 0) :=
    ⟨z, w, rfl, rfl, hs, ho, hi, ht, fun _ _ _ _ => rfl, fun _ _ _ => rfl, zEc1_rf e z, fun _ _ => rfl, fun _ _ _ => rfl, zEm1_rf e w, Or.inl rfl, id⟩
  -- the model down to 72
  have mrun : fX19_arriveThanks_27 N 0 e (Int32.ofNat s) (vgT V) w = fX19_arriveThanks_72 N 0 e (Int32.ofNat s) (vgT V) (zbi (vNew V (zgI w 14 12 e) (zgI w 14 13 e))) w := by
    unfold fX19_arriveThanks_27 fX19_arriveThanks_67 fX19_arriveThanks_71 vNew
    rw [zm_sgN hVm, zc_e, zm_bf, zc_e]
    cases c1 : zbf (zgI w 14 12 e) (vgN V)
    · rw [if_neg (by decide), zm_sgN hVm, zc_e]
      by_cases c2 : zgI w 14 12 e = vgN V
      · rw [if_neg (show ¬ ¬ zgI w 14 12 e = vgN V from fun y => y c2), zm_bf, zc_e, decide_eq_true c2]
        cases c3 : zbf (vgT V) (zgI w 14 13 e)
        · rw [if_neg (by decide)]; rfl
        · rw [if_pos (by decide)]; rfl
      · rw [if_pos (show ¬ zgI w 14 12 e = vgN V from c2), decide_eq_false c2]; rfl
    · rw [if_pos (by decide)]; rfl
  have crun : fX3_takeWindow N e x (vgT V) z = (if zbf (vgT V) (zgI z 6 5 e) = true then some (0, z) else fX3_takeWindow_64 N e x (vgT V) (zbi (vNew V (zgI z 6 12 e) (zgI z 6 13 e))) z) := by
    unfold fX3_takeWindow fX3_takeWindow_59 fX3_takeWindow_63 vNew
    rw [hV.1.2.1, zl_e, h16, zl_e, zd_e, zc_bf, zc_e]
    cases c0 : zbf (vgT V) (zgI z 6 5 e)
    · rw [if_pos (by decide), if_neg (by decide), zl_e, h16, zd_e, zc_bf, zc_e]
      cases c1 : zbf (zgI z 6 12 e) (vgN V)
      · rw [if_neg (by decide), zl_e, h16, zd_e]
        by_cases c2 : zgI z 6 12 e = vgN V
        · rw [if_neg (show ¬ ¬ zgI z 6 12 e = vgN V from fun y => y c2), zl_e, zd_e, zc_bf, zc_e, decide_eq_true c2]
          cases c3 : zbf (vgT V) (zgI z 6 13 e)
          · rw [if_neg (by decide)]; rfl
          · rw [if_pos (by decide)]; rfl
        · rw [if_pos (show ¬ zgI z 6 12 e = vgN V from c2), decide_eq_false c2]; rfl
      · rw [if_pos (by decide)]; rfl
    · rw [if_neg (by decide), if_pos rfl]
  rw [mrun, crun, ← fo.2.2.2.2.2.2.1, ← fo.2.2.2.2.2.2.2]
  unfold fX19_arriveThanks_72
  rw [← fo.2.1, zm_bf, zc_e, ← fo.2.2.2.2.2.1]
  cases c0 : zbf (vgT V) (zgI z 6 5 e)
  · rw [if_neg (by decide), if_neg (by decide)]
    unfold fX3_takeWindow_64
    cases cn : vNew V (zgI z 6 12 e) (zgI z 6 13 e)
    · rw [if_neg (by decide), if_pos (by decide)]; exact same
    · rw [if_pos (by decide), if_neg (by decide), h16, zl_e, zd_e]
      -- the told window
      obtain ⟨z1, hz1⟩ : ∃ u, u = zsI (zsI (zsI z 6 11 e (vgW V)) 6 12 e (vgN V)) 6 13 e (vgT V) := ⟨_, rfl⟩
      obtain ⟨w1, hw1⟩ : ∃ u, u = zsI (zsI (zsI w 14 11 e (vgW V)) 14 12 e (vgN V)) 14 13 e (vgT V) := ⟨_, rfl⟩
      have I1 : ∀ k j u, ¬ ((k = 6 ∧ (j = 11 ∨ j = 12 ∨ j = 13)) ∧ u = e) → zgI z1 k j u = zgI z k j u := fun k j u q => by rw [hz1, zgI_sI, zgI_sI, zgI_sI, if_neg (by omega), if_neg (by omega), if_neg (by omega)]
      have J1 : ∀ j, ¬ (j = 11 ∨ j = 12 ∨ j = 13) → zgI w1 14 j e = zgI w 14 j e := fun j q => by rw [hw1, zgI_sI, zgI_sI, zgI_sI, if_neg (by omega), if_neg (by omega), if_neg (by omega)]
      have i11 : zgI z1 6 11 e = vgW V := by rw [hz1, zgI_sI, zgI_sI, zgI_sI, if_neg (by omega), if_neg (by omega), if_pos ⟨rfl, rfl, rfl⟩]
      have i12 : zgI z1 6 12 e = vgN V := by rw [hz1, zgI_sI, zgI_sI, if_neg (by omega), if_pos ⟨rfl, rfl, rfl⟩]
      have i13 : zgI z1 6 13 e = vgT V := by rw [hz1, zgI_sI, if_pos ⟨rfl, rfl, rfl⟩]
      have j11 : zgI w1 14 11 e = vgW V := by rw [hw1, zgI_sI, zgI_sI, zgI_sI, if_neg (by omega), if_neg (by omega), if_pos ⟨rfl, rfl, rfl⟩]
      have j12 : zgI w1 14 12 e = vgN V := by rw [hw1, zgI_sI, zgI_sI, if_neg (by omega), if_pos ⟨rfl, rfl, rfl⟩]
      have j13 : zgI w1 14 13 e = vgT V := by rw [hw1, zgI_sI, if_pos ⟨rfl, rfl, rfl⟩]
      have R1 : ∀ k j u, zgR z1 k j u = zgR z k j u := fun k j u => by rw [hz1]; rfl
      have A1 : ∀ k u i, zgA z1 k u i = zgA z k u i := fun k u i => by rw [hz1]; rfl
      have B1 : ∀ k u i, zgA w1 k u i = zgA w k u i := fun k u i => by rw [hw1]; rfl
      have ec1 : zEc1 e z z1 := by rw [hz1]; exact zEc1_tr (zEc1_I (by simp)) (zEc1_tr (zEc1_I (by simp)) (zEc1_I (by simp)))
      have em1 : zEm1 e w w1 := by rw [hw1]; exact zEm1_tr zEm1_I (zEm1_tr zEm1_I zEm1_I)
      have tell : fX6_tellWindow N e x (vgT V) z = some (0, z1) := by
        unfold fX6_tellWindow
        rw [hV.1.2.2.2.1, zl_e]
        have q : zgI (zsI z 6 11 e (vgW V)) 7 16 x = vgN V := by rw [zgI_sI, if_neg (by omega)]; exact hV.1.2.1
        rw [q, zl_e, zl_e, ← hz1]
      have hVm1 : ∀ v : Int32, zSgM (zsI w 14 11 e v) s V := fun v => zSgM_em zEm1_I hVm
      have mtell : ∀ s0 : Int32, fX19_arriveThanks_111 N 0 e (Int32.ofNat s) (vgT V) s0 w = (if s0 = 0 then (if ¬ vgW V = 0 then (fX19_arriveThanks_195 N 0 e w1) else fX19_arriveThanks_195 N 0 e (zsI w1 14 36 e 0)) else (if (zgI (zsI (zsI w1 14 36 e 0) 14 31 e 0) 14 33 e) = 0 then (fX19_arriveThanks_176 N 0 e e (zsI (zsI w1 14 36 e 0) 14 31 e 0)) else (if (zgI (zsI (zsI w1 14 36 e 0) 14 31 e 0) 14 6 e) = (zgI (zsI (zsI w1 14 36 e 0) 14 31 e 0) 14 7 e) then (fX19_arriveThanks_176 N 0 e e (zsI (zsI w1 14 36 e 0) 14 31 e 0)) else (fX19_arriveThanks_177 N 0 e e (1 : Int32) (zsI (zsI w1 14 36 e 0) 14 31 e 0))))) := fun s0 => by
        unfold fX19_arriveThanks_111
        rw [zm_sgW hVm, zc_e, zl_e, zm_sgN (hVm1 _), zc_e, zl_e, zl_e, ← hw1, j11, zl_e, zl_e, zl_e]
      -- what follows, the end of all cases
      have fin : ∀ (z' w' : St), (∀ k j u, ¬ (((k = 10 ∧ j ≤ 1) ∨ (k = 3 ∧ j = 12)) ∧ u = e) → zgI z' k j u = zgI z1 k j u) → (∀ k u i, zgA z' k u i = zgA z1 k u i) → zEc1 e z1 z' → (∀ j, ¬ (j = 31 ∨ j = 33 ∨ j = 36) → zgI w' 14 j e = zgI w1 14 j e) → (∀ k u i, zgA w' k u i = zgA w1 k u i) → zEm1 e w1 w' → zgI z' 3 12 e = zgI w' 14 31 e → zgI z' 10 1 e = zgI w' 14 36 e → ((zgI z' 10 0 e = 0 ∧ zgI w' 14 33 e = 0) ∨ (¬ zgI z' 10 0 e = 0 ∧ zgI z' 10 0 e = zgI z 10 0 e ∧ zgI w' 14 33 e = 1)) → 
          zRs z' w' e ∧ zRo z' w' e ∧ zRi z' w' e ∧ zRt z' w' e ∧
          (∀ k j u, ¬ (((k = 6 ∧ (j = 11 ∨ j = 12 ∨ j = 13)) ∨ (k = 10 ∧ j ≤ 1) ∨ (k = 3 ∧ j = 12)) ∧ u = e) → zgI z' k j u = zgI z k j u) ∧ (∀ k u i, zgA z' k u i = zgA z k u i) ∧ zEc1 e z z' ∧
          (∀ j, ¬ (j = 11 ∨ j = 12 ∨ j = 13 ∨ j = 31 ∨ j = 33 ∨ j = 36) → zgI w' 14 j e = zgI w 14 j e) ∧ (∀ k u i, zgA w' k u i = zgA w k u i) ∧ zEm1 e w w' ∧ (zgI z' 6 11 e = zgI z 6 11 e ∨ zgI z' 6 11 e = vgW V) ∧ (¬ zgI z' 10 0 e = 0 → ¬ zgI z 10 0 e = 0) := by
        intro z' w' hI hA hc hJ hB hm e12 e101 al
        have C : ∀ k j u, ¬ (((k = 6 ∧ (j = 11 ∨ j = 12 ∨ j = 13)) ∨ (k = 10 ∧ j ≤ 1) ∨ (k = 3 ∧ j = 12)) ∧ u = e) → zgI z' k j u = zgI z k j u := fun k j u q => (hI k j u (by omega)).trans (I1 k j u (by omega))
        have D : ∀ j, ¬ (j = 11 ∨ j = 12 ∨ j = 13 ∨ j = 31 ∨ j = 33 ∨ j = 36) → zgI w' 14 j e = zgI w 14 j e := fun j q => (hJ j (by omega)).trans (J1 j (by omega))
        refine ⟨?_, ?_, ?_, ?_, C, fun k u i => (hA k u i).trans (A1 k u i), zEc1_tr ec1 hc, D, fun k u i => (hB k u i).trans (B1 k u i), zEm1_tr em1 hm, Or.inr ((hI 6 11 e (by omega)).trans i11), ?_⟩
        · refine zRs_ch (fun j _ q => C 3 j e (by omega)) (fun j hj => D j (by omega)) ?_ ?_ ?_ ?_ e12 ?_ ?_ hs
          · rw [C 3 0 e (by omega), D 0 (by omega)]; exact hs.1.1
          · rw [C 3 0 e (by omega)]; exact id
          · rw [C 3 9 e (by omega), D 28 (by omega)]; exact hs.2.2.1
          · rw [C 3 11 e (by omega), D 30 (by omega)]; exact hs.2.2.2.2.1
          · rw [C 3 13 e (by omega), D 32 (by omega)]; exact hs.2.2.2.2.2.2.1
          · rw [C 3 13 e (by omega)]; exact hs.2.2.2.2.2.2.2
        · exact zRo_win (fun j _ q => C 6 j e (by omega)) (fun i => (hA 124 e i).trans (A1 124 e i)) (fun j hj => D j (by omega)) (fun i => (hB 159 e i).trans (B1 159 e i)) (by rw [hI 6 11 e (by omega), hJ 11 (by omega), i11, j11]) (by rw [hI 6 12 e (by omega), hJ 12 (by omega), i12, j12]) (by rw [hI 6 13 e (by omega), hJ 13 (by omega), i13, j13]) ho
        · exact zRi_cg (fun j _ => C 4 j e (by omega)) (fun k i _ => (hA k e i).trans (A1 k e i)) (fun j hj => D j (by omega)) (fun k i _ => (hB k e i).trans (B1 k e i)) hi
        · refine zRt_ch ?_ e101 (fun j hj => C 10 j e (by omega)) (fun j hj => D j (by omega)) ht
          rcases al with al | ⟨a1, a2, a3⟩
          · exact Or.inl al
          · refine Or.inr ⟨a1, a3, ?_⟩
            rw [D 34 (by omega), a2]
            rcases ht.1 with ⟨y, -⟩ | ⟨-, -, y⟩
            · rw [a2] at a1; exact absurd y a1
            · exact y
        · rcases al with ⟨a1, -⟩ | ⟨a1, a2, -⟩
          · exact fun y => absurd a1 y
          · rw [← a2]; exact fun _ => a1
      have alm : (zgI z1 10 0 e = 0 ∧ zgI w1 14 33 e = 0) ∨ (¬ zgI z1 10 0 e = 0 ∧ zgI z1 10 0 e = zgI z 10 0 e ∧ zgI w1 14 33 e = 1) := by
        have q1 := I1 10 0 e (by omega)
        rw [q1, J1 33 (by omega)]
        rcases ht.1 with y | ⟨y1, y2, -⟩
        · exact Or.inl y
        · exact Or.inr ⟨y1, rfl, y2⟩
      have p31 : zgI z1 3 12 e = zgI w1 14 31 e := by rw [I1 3 12 e (by omega), J1 31 (by omega)]; exact hs.2.2.2.2.2.1
      have p36 : zgI z1 10 1 e = zgI w1 14 36 e := by rw [I1 10 1 e (by omega), J1 36 (by omega)]; exact ht.2.1
      unfold fX3_takeWindow_87 fX3_takeWindow_113 fX19_arriveThanks_110
      by_cases cw : zgI z 6 11 e = 0
      · -- it was shut
        rw [if_neg (show ¬ ¬ zgI z 6 11 e = 0 from fun y => y cw), if_neg (show ¬ ¬ zgI z 6 11 e = 0 from fun y => y cw), h16, zl_e, zd_e, tell, zc_e, R1, h16, zl_e, zd_e, i11, zm_sgW hVm, zc_e]
        obtain ⟨z2, hz2⟩ : ∃ u, u = zsI z1 10 1 e 0 := ⟨_, rfl⟩
        have R2 : ∀ k j u, zgR z2 k j u = zgR z k j u := fun k j u => by rw [hz2]; exact R1 k j u
        have I2 : ∀ k j u, ¬ (k = 10 ∧ j = 1 ∧ u = e) → zgI z2 k j u = zgI z1 k j u := fun k j u q => by rw [hz2, zgI_sI, if_neg q]
        have ec2 : zEc1 e z1 z2 := by rw [hz2]; exact zEc1_I (by simp)
        by_cases cv : vgW V = 0
        · -- it stays so
          rw [if_pos cv, if_pos cv, mtell, if_pos rfl, if_neg (show ¬ ¬ vgW V = 0 from fun y => y cv), R1, h18, zl_e, zd_e, zl_e, ← hz2]
          unfold fX3_takeWindow_121
          rw [R2, h16, zl_e, zd_e, I2 6 11 e (by omega), i11, if_pos cv]
          refine ⟨z2, zsI w1 14 36 e 0, rfl, rfl, fin _ _ (fun k j u q => I2 k j u (by omega)) (fun k u i => by rw [hz2]; rfl) ec2 (fun j q => by rw [zgI_sI, if_neg (by omega)]) (fun _ _ _ => rfl) zEm1_I ?_ ?_ ?_⟩
          · rw [I2 3 12 e (by omega), zgI_sI, if_neg (by omega)]; exact p31
          · rw [hz2, zgI_sI, zgI_sI, if_pos ⟨rfl, rfl, rfl⟩, if_pos ⟨rfl, rfl, rfl⟩]
          · rw [I2 10 0 e (by omega), zgI_sI, if_neg (by omega)]; exact alm
        · -- it opens
          rw [if_neg cv, if_neg cv, if_neg (show ¬ (1 : Int32) = 0 by decide), mtell, if_neg (show ¬ (1 : Int32) = 0 by decide), R1, h18, zl_e, zd_e, zl_e, ← hz2]
          unfold fX3_takeWindow_121
          obtain ⟨z3, hz3⟩ : ∃ u, u = zsI z2 3 12 e 0 := ⟨_, rfl⟩
          obtain ⟨w3, hw3⟩ : ∃ u, u = zsI (zsI w1 14 36 e 0) 14 31 e 0 := ⟨_, rfl⟩
          have R3 : ∀ k j u, zgR z3 k j u = zgR z k j u := fun k j u => by rw [hz3]; exact R2 k j u
          have I3 : ∀ k j u, ¬ (((k = 10 ∧ j = 1) ∨ (k = 3 ∧ j = 12)) ∧ u = e) → zgI z3 k j u = zgI z1 k j u := fun k j u q => by rw [hz3, zgI_sI, if_neg (by omega)]; exact I2 k j u (by omega)
          have J3 : ∀ j, ¬ (j = 31 ∨ j = 36) → zgI w3 14 j e = zgI w1 14 j e := fun j q => by rw [hw3, zgI_sI, zgI_sI, if_neg (by omega), if_neg (by omega)]
          have A3 : ∀ k u i, zgA z3 k u i = zgA z1 k u i := fun k u i => by rw [hz3, hz2]; rfl
          have B3 : ∀ k u i, zgA w3 k u i = zgA w1 k u i := fun k u i => by rw [hw3]; rfl
          have ec3 : zEc1 e z1 z3 := by rw [hz3]; exact zEc1_tr ec2 (zEc1_I (by simp))
          have em3 : zEm1 e w1 w3 := by rw [hw3]; exact zEm1_tr zEm1_I zEm1_I
          have c12 : zgI z3 3 12 e = 0 := by rw [hz3, zgI_sI, if_pos ⟨rfl, rfl, rfl⟩]
          have m31 : zgI w3 14 31 e = 0 := by rw [hw3, zgI_sI, if_pos ⟨rfl, rfl, rfl⟩]
          have c101 : zgI z3 10 1 e = 0 := by rw [hz3, hz2, zgI_sI, zgI_sI, if_neg (by omega), if_pos ⟨rfl, rfl, rfl⟩]
          have m36 : zgI w3 14 36 e = 0 := by rw [hw3, zgI_sI, zgI_sI, if_neg (by omega), if_pos ⟨rfl, rfl, rfl⟩]
          have e56 : zgI w3 14 6 e = zgI z 6 5 e := by rw [J3 6 (by omega), J1 6 (by omega)]; exact fo.2.1.symm
          have e57 : zgI w3 14 7 e = zgI z 6 6 e := by rw [J3 7 (by omega), J1 7 (by omega)]; exact fo.2.2.1.symm
          rw [R2, h16, zl_e, zd_e, I2 6 11 e (by omega), i11, if_neg cv, if_neg (show ¬ (1 : Int32) = 0 by decide), zl_e, ← hz3, R3, h16, zl_e, zd_e, zc_unthanked, zc_e, I3 6 5 e (by omega), I3 6 6 e (by omega), I1 6 5 e (by omega), I1 6 6 e (by omega), ← hw3, e56, e57, J3 33 (by omega)]
          unfold fX19_arriveThanks_176 fX19_arriveThanks_177
          by_cases cu : zgI z 6 5 e = zgI z 6 6 e
          · -- all is thanked for
            rw [decide_eq_false (fun y => y cu), if_neg (by decide), R3, h18, zl_e, zd_e, zl_e, if_pos cu]
            have mm : ∀ {α : Type} (p : Prop) [Decidable p] (a : α), (if p then a else a) = a := fun p _ a => by split <;> rfl
            rw [mm, zq01 (Or.inl rfl), zl_e]
            refine ⟨_, _, rfl, rfl, fin _ _ (fun k j u q => by rw [zgI_sI, if_neg (by omega)]; exact I3 k j u (by omega)) (fun k u i => A3 k u i) (zEc1_tr ec3 (zEc1_I (by simp))) (fun j q => by rw [zgI_sI, if_neg (by omega)]; exact J3 j (by omega)) (fun k u i => B3 k u i) (zEm1_tr em3 zEm1_I) ?_ ?_ ?_⟩
            · rw [zgI_sI, zgI_sI, if_neg (by omega), if_neg (by omega), c12, m31]
            · rw [zgI_sI, zgI_sI, if_neg (by omega), if_neg (by omega), c101, m36]
            · left; rw [zgI_sI, zgI_sI, if_pos ⟨rfl, rfl, rfl⟩, if_pos ⟨rfl, rfl, rfl⟩]; exact ⟨rfl, rfl⟩
          · rw [decide_eq_true cu, if_pos (by decide), if_neg cu]
            rcases alm with ⟨y1, y2⟩ | ⟨y1, y2, y3⟩
            · rw [if_pos y2, zq01 (Or.inl rfl), zl_e]
              refine ⟨z3, _, rfl, rfl, fin _ _ (fun k j u q => I3 k j u (by omega)) A3 ec3 (fun j q => by rw [zgI_sI, if_neg (by omega)]; exact J3 j (by omega)) (fun k u i => B3 k u i) (zEm1_tr em3 zEm1_I) ?_ ?_ ?_⟩
              · rw [zgI_sI, if_neg (by omega), c12, m31]
              · rw [zgI_sI, if_neg (by omega), c101, m36]
              · left; rw [I3 10 0 e (by omega), zgI_sI, if_pos ⟨rfl, rfl, rfl⟩]; exact ⟨y1, rfl⟩
            · rw [if_neg (by rw [y3]; decide), zq01 (Or.inr rfl), zl_e]
              refine ⟨z3, _, rfl, rfl, fin _ _ (fun k j u q => I3 k j u (by omega)) A3 ec3 (fun j q => by rw [zgI_sI, if_neg (by omega)]; exact J3 j (by omega)) (fun k u i => B3 k u i) (zEm1_tr em3 zEm1_I) ?_ ?_ ?_⟩
              · rw [zgI_sI, if_neg (by omega), c12, m31]
              · rw [zgI_sI, if_neg (by omega), c101, m36]
              · right; rw [I3 10 0 e (by omega), zgI_sI, if_pos ⟨rfl, rfl, rfl⟩]; exact ⟨y1, y2, rfl⟩
      · -- it was open
        rw [if_pos (show ¬ zgI z 6 11 e = 0 from cw), if_pos (show ¬ zgI z 6 11 e = 0 from cw), h16, zl_e, zd_e, tell, zc_e, R1, h16, zl_e, zd_e, i11, mtell, if_pos rfl]
        by_cases cv : vgW V = 0
        · rw [if_pos cv, if_neg (show ¬ ¬ vgW V = 0 from fun y => y cv), R1, h18, zl_e, zd_e, zl_e]
          unfold fX3_takeWindow_121
          have r2 : zgR (zsI z1 10 1 e 0) 3 16 e = some e := (R1 3 16 e).trans h16
          have i2 : zgI (zsI z1 10 1 e 0) 6 11 e = vgW V := by rw [zgI_sI, if_neg (by omega)]; exact i11
          rw [r2, zl_e, zd_e, i2, if_pos cv]
          refine ⟨_, _, rfl, rfl, fin _ _ (fun k j u q => by rw [zgI_sI, if_neg (by omega)]) (fun _ _ _ => rfl) (zEc1_I (by simp)) (fun j q => by rw [zgI_sI, if_neg (by omega)]) (fun _ _ _ => rfl) zEm1_I ?_ ?_ ?_⟩
          · rw [zgI_sI, zgI_sI, if_neg (by omega), if_neg (by omega)]; exact p31
          · rw [zgI_sI, zgI_sI, if_pos ⟨rfl, rfl, rfl⟩, if_pos ⟨rfl, rfl, rfl⟩]
          · rw [zgI_sI, zgI_sI, if_neg (by omega), if_neg (by omega)]; exact alm
        · rw [if_neg cv, if_pos (show ¬ vgW V = 0 from cv), if_pos rfl]
          unfold fX3_takeWindow_121
          rw [R1, h16, zl_e, zd_e, i11, if_neg cv, if_pos rfl]
          exact ⟨z1, w1, rfl, rfl, fin _ _ (fun _ _ _ _ => rfl) (fun _ _ _ => rfl) (zEc1_rf e z1) (fun _ _ => rfl) (fun _ _ _ => rfl) (zEm1_rf e w1) p31 p36 alm⟩
  · rw [if_pos rfl, if_pos (by decide)]; exact same
