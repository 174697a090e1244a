/-! a byte is read, ledger and book with it: both sides -/
theorem zEe_same {z z' w w' : St} {e : Nat} (hc : ∀ k j, k = 3 ∨ k = 4 ∨ k = 6 ∨ k = 10 → zgI z' k j e = zgI z k j e) (hA : ∀ k i, zgA z' k e i = zgA z k e i) (hm : ∀ j, j < 44 → zgI w' 14 j e = zgI w 14 j e) (hB : ∀ k i, zgA w' k e i = zgA w k e i) (h : zEe z w e) : zEe z' w' e := by
  obtain ⟨hs, ho, hi, ht, hnn⟩ := h
  refine ⟨zRs_cg (fun j _ => hc 3 j (by omega)) (fun j hj => hm j (by omega)) hs, zRo_cg (fun j _ => hc 6 j (by omega)) (fun i => hA 124 i) (fun j hj => hm j (by omega)) (fun i => hB 159 i) ho, zRi_cg (fun j _ => hc 4 j (by omega)) (fun k i _ => hA k i) (fun j hj => hm j (by omega)) (fun k i _ => hB k i) hi, zRt_cg (fun j _ => hc 10 j (by omega)) (fun j hj => hm j (by omega)) ht, zRn_cg (fun j _ => hc 3 j (by omega)) (hc 6 11 (by omega)) ?_ (zRq_eq (fun j _ => hc 3 j (by omega)) (fun j _ => hc 6 j (by omega)) (hc 10 0 (by omega)) (hc 4 7 (by omega)) (hm 17 (by omega)) hnn.2.2.2.2) hnn⟩
  rw [hc 3 0 (by omega), hc 6 6 (by omega), hc 6 4 (by omega)]; exact hnn.1
/-- a maker's bytes and its book -/
def zTie (z w : St) (n : Nat) (m : Int32) (b : Nat) : Prop := zgA w 182 0 b = Int32.ofNat (lgS z m n).length ∧ ∀ p, p < (lgS z m n).length → (lgS z m n).length ≤ p + 4096 → (lgS z m n)[p]? = some (bkB w b p)
/-- a reader's place -/
def zPl (z w : St) (n e p : Nat) : Prop := zgI w 14 46 e = Int32.ofNat p ∧ ∃ x y, zPt z (zgI z 3 15 e) n e x y ∧ lgP z (zgI z 3 15 e) n x y = p
theorem zPt_cg {z z' : St} {m : Int32} {n e x y : Nat} (h0 : zgI z' 2 10 e = zgI z 2 10 e) (h1 : zgI z' 2 11 e = zgI z 2 11 e) (hA : ∀ k i, k = 143 ∨ k = 144 → zgA z' k 0 i = zgA z k 0 i) (h : zPt z m n e x y) : zPt z' m n e x y := by
  unfold zPt lgC lgV at h ⊢
  rw [h0, h1, hA 143 x (by omega), hA 144 x (by omega)]
  exact h
theorem lgP_cg {z z' : St} {m : Int32} {n x y : Nat} (hA : ∀ k i, k = 143 ∨ k = 144 → zgA z' k 0 i = zgA z k 0 i) (hL : ∀ i, zgL z' 145 0 i = zgL z 145 0 i) : lgP z' m n x y = lgP z m n x y := by
  unfold lgP
  rw [lgS_cg x (fun i _ => ⟨hA 143 i (by omega), hA 144 i (by omega), hL i⟩), hA 143 x (by omega)]
theorem zp_readS {z w : St} {n e p b N : Nat} (h17r : zgR z 3 17 e = some e) (h212 : zgR z 2 12 e = some e) (h19 : zgI z 11 19 0 = Int32.ofNat n) (hn : n ≤ 512) (h : zEe z w e) (h0 : ¬ zgI z 4 3 e ≤ 0) (hb : b < 2592) (h45 : zgI w 14 45 e = Int32.ofNat b) (ht : zTie z w n (zgI z 3 15 e) b) (hp : zPl z w n e p) (hp1 : p < (lgS z (zgI z 3 15 e) n).length) (hp2 : (lgS z (zgI z 3 15 e) n).length ≤ p + 4096) (hlen : (lgS z (zgI z 3 15 e) n).length < 2147483648) (hst : zgI z 11 8 0 = zgI w 19 26 0) (hN : 600 < N) :
    ∃ v z' w', fX11_takeByte N 0 e z = some (v, z') ∧ fX19_read N 0 e w = some (v, w') ∧ zEe z' w' e ∧ zgI z' 11 8 0 = zgI w' 19 26 0 ∧ zPl z' w' n e (p + 1) ∧ (zgI z' 4 3 e).toNatClampNeg + 1 = (zgI z 4 3 e).toNatClampNeg ∧ (∀ k j o, ¬ (o = e ∧ (k = 4 ∧ (j = 2 ∨ j = 3) ∨ k = 3 ∧ j = 13 ∨ k = 2 ∧ (j = 10 ∨ j = 11))) → ¬ (k = 11 ∧ j = 8) → zgI z' k j o = zgI z k j o) ∧ (∀ k o i, ¬ ((k = 120 ∨ k = 121 ∨ k = 124) ∧ o = e) → zgA z' k o i = zgA z k o i) ∧ (∀ k o i, zgL z' k o i = zgL z k o i) ∧ (∀ k o i, zgQ z' k o i = zgQ z k o i) ∧ (∀ k o i, zgR z' k o i = zgR z k o i) ∧ (∃ w1 s, zEm1 e w w1 ∧ (∀ k o i, zgA w1 k o i = zgA w k o i) ∧ w' = zsI (zsI w1 19 26 0 s) 14 46 e (zgI w 14 46 e + 1)) := by
  obtain ⟨P46, x, y, hpt, hlp⟩ := hp
  obtain ⟨v, z1, w1, a1, a2, a3, a4, a5, a6, a7, a8⟩ := zp_takeByte (N := N) h17r h h0
  have cA : ∀ k i, k = 143 ∨ k = 144 → zgA z1 k 0 i = zgA z k 0 i := fun k i hk => a4.2.1 k 0 i (by omega)
  have cL : ∀ i, zgL z1 145 0 i = zgL z 145 0 i := fun i => a4.2.2.1 145 0 i
  have m15 : zgI z1 3 15 e = zgI z 3 15 e := a6 3 15 (by omega) (by omega)
  have S1 : ∀ k, lgS z1 (zgI z 3 15 e) k = lgS z (zgI z 3 15 e) k := fun k => lgS_cg k (fun i _ => ⟨cA 143 i (by omega), cA 144 i (by omega), cL i⟩)
  have pt1 : zPt z1 (zgI z 3 15 e) n e x y := zPt_cg (a4.1 2 10 e (by omega)) (a4.1 2 11 e (by omega)) cA hpt
  have lp1 : lgP z1 (zgI z 3 15 e) n x y = p := (lgP_cg cA cL).trans hlp
  obtain ⟨r7, z2, x', y', b1, b2, b3, b4⟩ := zc_nextWritten (N := N) ((a4.1 11 19 0 (by omega)).trans h19) hn ((a4.2.2.2.2 2 12 e).trans h212) m15 pt1 hN
  rw [lp1, S1] at b4
  obtain ⟨c1, c2⟩ : (lgS z (zgI z 3 15 e) n)[p]? = some r7 ∧ lgP z1 (zgI z 3 15 e) n x' y' = p + 1 := by
    rcases b4 with q | q
    · exact q
    · have := q.1; omega
  have w46 : zgI w1 14 46 e = Int32.ofNat p := (zFr_gI (wX14_read (Nat.and_self _) (zFr_rf _ _) _ _ a2) (by decide) (by decide) e).trans P46
  have w45 : zgI w1 14 45 e = Int32.ofNat b := (a5.1 14 45 e (by omega)).trans h45
  have w182 : zgA w1 182 0 b = Int32.ofNat (lgS z (zgI z 3 15 e) n).length := (a8 182 0 b).trans ht.1
  have r8 : r7 = bkB w1 b p := by
    have q := ht.2 p hp1 hp2
    rw [c1] at q
    have q2 : bkB w1 b p = bkB w b p := by unfold bkB; rw [a5.2.2.1]
    rw [q2]; exact Option.some.inj q
  have w26 : zgI w1 19 26 0 = zgI w 19 26 0 := a5.1 19 26 0 (by omega)
  have mod : fX19_read N 0 e w = some (v, zsI (zsI w1 19 26 0 (zgI w 19 26 0 + (if v = r7 then 0 else 1))) 14 46 e (zgI w 14 46 e + 1)) := by
    have e46 : ∀ s, zgI (zsI w1 19 26 0 s) 14 46 e = zgI w 14 46 e := fun s => by rw [zgI_sI, if_neg (by omega), w46, P46]
    unfold fX19_read fX19_read_49 fX19_read_50 fX19_read_65
    rw [a2, zc_e, w45, if_neg (zo_ne1 (by omega)), zkk hb (by omega), zoC (by omega), w182, w46, if_neg (show ¬ Int32.ofNat (lgS z (zgI z 3 15 e) n).length ≤ Int32.ofNat p from fun q => by
      have := (zo_le (by omega) (by omega)).mp q
      omega), zm_written hb (by omega), zc_e, ← r8]
    by_cases c : v = r7
    · rw [if_neg (show ¬ ¬ r7 = v from fun q => q c.symm), if_neg (show ¬ (1 : Int32) = 0 by decide), zl_e, e46, zl_e, w26, if_pos c]
    · rw [if_pos (show ¬ r7 = v from fun q => c q.symm), if_pos (show (0 : Int32) = 0 from rfl), zl_e, e46, zl_e, w26, if_neg c]
  obtain ⟨z', hz⟩ : ∃ u, u = (if v = r7 then z2 else zsI z2 11 8 0 (zgI z2 11 8 0 + 1)) := ⟨_, rfl⟩
  have cls : fX11_takeByte N 0 e z = some (v, z') := by
    unfold fX11_takeByte
    rw [h212, zl_e, zd_e, a1, zc_e, b1, zc_e, hz]
    by_cases c : v = r7
    · rw [if_pos c, if_pos c]
    · rw [if_neg c, if_neg c, zl_e]
  have I2 : ∀ k j o, ¬ (k = 11 ∧ j = 8) → zgI z' k j o = zgI z2 k j o := fun k j o q => by
    rw [hz]; split
    · rfl
    · rw [zgI_sI, if_neg (by omega)]
  have A2 : ∀ k o i, zgA z' k o i = zgA z2 k o i := fun k o i => by rw [hz]; split <;> rfl
  have L2 : ∀ k o i, zgL z' k o i = zgL z2 k o i := fun k o i => by rw [hz]; split <;> rfl
  have Q2 : ∀ k o i, zgQ z' k o i = zgQ z2 k o i := fun k o i => by rw [hz]; split <;> rfl
  have R2 : ∀ k o i, zgR z' k o i = zgR z2 k o i := fun k o i => by rw [hz]; split <;> rfl
  have I8 : zgI z' 11 8 0 = zgI z 11 8 0 + (if v = r7 then 0 else 1) := by
    have q : zgI z2 11 8 0 = zgI z 11 8 0 := (b2.1 11 8 0 (by omega)).trans (a4.1 11 8 0 (by omega))
    rw [hz]
    by_cases c : v = r7
    · rw [if_pos c, if_pos c, q, Int32.add_zero]
    · rw [if_neg c, if_neg c, zgI_sI, if_pos ⟨rfl, rfl, rfl⟩, q]
  have tA : ∀ k o i, zgA z' k o i = zgA z1 k o i := fun k o i => (A2 k o i).trans (b2.2.1 k o i)
  have tL : ∀ k o i, zgL z' k o i = zgL z1 k o i := fun k o i => (L2 k o i).trans (b2.2.2.1 k o i)
  have tI : ∀ k j o, ¬ (k = 2 ∧ (j = 10 ∨ j = 11) ∧ o = e) → ¬ (k = 11 ∧ j = 8) → zgI z' k j o = zgI z1 k j o := fun k j o q q2 => (I2 k j o q2).trans (b2.1 k j o q)
  refine ⟨v, z', _, cls, mod, zEe_same (fun k j hk => tI k j e (by omega) (by omega)) (fun k i => tA k e i) (fun j hj => by rw [zgI_sI, zgI_sI, if_neg (by omega), if_neg (by omega)]) (fun _ _ => rfl) a3, ?_, ⟨?_, x', y', ?_, ?_⟩, ?_, fun k j o q q2 => ?_, fun k o i q => (tA k o i).trans (a4.2.1 k o i q), fun k o i => (tL k o i).trans (a4.2.2.1 k o i), fun k o i => (Q2 k o i).trans ((b2.2.2.2.1 k o i).trans (a4.2.2.2.1 k o i)), fun k o i => (R2 k o i).trans ((b2.2.2.2.2 k o i).trans (a4.2.2.2.2 k o i)), w1, _, a5, a8, rfl⟩
  · have q : ∀ s t, zgI (zsI (zsI w1 19 26 0 s) 14 46 e t) 19 26 0 = s := fun s t => by rw [zgI_sI, if_neg (by omega), zgI_sI, if_pos ⟨rfl, rfl, rfl⟩]
    rw [q, I8, hst]
  · rw [zgI_sI, if_pos ⟨rfl, rfl, rfl⟩, P46]; exact zo_add p 1
  · rw [tI 3 15 e (by omega) (by omega), m15]
    exact zPt_cg (I2 2 10 e (by omega)) (I2 2 11 e (by omega)) (fun k i _ => A2 k 0 i) b3
  · rw [tI 3 15 e (by omega) (by omega), m15, ← c2]
    exact lgP_cg (fun k i _ => tA k 0 i) (fun i => tL 145 0 i)
  · rw [tI 4 3 e (by omega) (by omega)]; exact a7
  · rw [tI k j o (by omega) q2]
    by_cases c : o = e
    · subst c
      exact a6 k j (by omega) (by omega)
    · exact a4.1 k j o (by omega)
