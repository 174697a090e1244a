/-! the model: setting the probe's alarm and reading do not meet -/
def rvM (w : St) (e : Nat) : Int32 := if zgI w 14 17 e = 0 then 0 else if zgI w 14 23 e = 0 then zgI w 14 16 e - zgI w 14 18 e else zgI w 14 16 e - 1 - zgI w 14 18 e
theorem zm_rv (w : St) (e N : Nat) : fX14_readable N e w = some (rvM w e, w) := by
  unfold fX14_readable fX14_readable_27 rvM
  split
  · rfl
  · split <;> rfl
theorem zm_rm (w : St) (e N : Nat) : fX14_room N e w = some (2048 - rvM w e, w) := by
  unfold fX14_room; rw [zm_rv, zc_e]
def rlM (w : St) (e : Nat) : Int32 := if (1024 : Int32) ≤ zgI w 14 15 e then 1024 else zgI w 14 15 e
def rbM (w : St) (e : Nat) : Int32 := zgA w 160 e (zun (zgI w 14 18 e) % 2048) &&& (255 : Int32)
def rtM (w : St) (e : Nat) : Bool := if rlM w e ≤ 2048 - rvM w e then false else if 2048 - rvM (zsI w 14 18 e (zgI w 14 18 e + 1)) e < rlM w e then false else decide (zgI w 14 0 e = 4 ∨ zgI w 14 0 e = 5 ∨ zgI w 14 0 e = 6)
def rwM (w : St) (e : Nat) : St := if rtM w e = true then zsI (zsI w 14 18 e (zgI w 14 18 e + 1)) 14 32 e 1 else zsI w 14 18 e (zgI w 14 18 e + 1)
theorem zm_readF (w : St) (e N : Nat) : fX14_read N e w = some (rbM w e, rwM w e) := by
  have p := zun_lt (zgI w 14 18 e)
  have hp : zun (zgI w 14 18 e) % 2048 < 2048 := Nat.mod_lt _ (by omega)
  have m0 : fX14_read N e w = fX14_read_20 N e (rlM w e) w := by
    unfold fX14_read rlM
    split <;> rfl
  obtain ⟨w1, hw⟩ : ∃ u, u = zsI w 14 18 e (zgI w 14 18 e + 1) := ⟨_, rfl⟩
  have j0 : zgI w1 14 0 e = zgI w 14 0 e := by rw [hw, zgI_sI, if_neg (by omega)]
  rw [m0]
  unfold fX14_read_20 fX14_read_34 fX14_read_100 rwM rtM
  rw [zm_rm, zc_e, ← hw]
  by_cases k1 : rlM w e ≤ 2048 - rvM w e
  · rw [if_pos k1, zand_o, zkk hp (by omega), zoC (by omega), zl_e, zl_e, if_pos (show (0 : Int32) = 0 from rfl), if_pos k1, if_neg (show ¬ false = true by decide)]
    rfl
  · rw [if_neg k1, zand_o, zkk hp (by omega), zoC (by omega), zl_e, zl_e, if_neg (show ¬ (1 : Int32) = 0 by decide), zm_rm, zc_e, if_neg k1]
    by_cases k2 : 2048 - rvM w1 e < rlM w e
    · rw [if_pos k2, if_pos k2, if_neg (show ¬ false = true by decide)]; rfl
    · rw [if_neg k2, if_neg k2, j0]
      by_cases a4 : zgI w 14 0 e = 4
      · rw [if_pos a4, decide_eq_true (Or.inl a4), if_pos rfl, zl_e]; rfl
      · rw [if_neg a4]
        by_cases a5 : zgI w 14 0 e = 5
        · rw [if_pos a5, decide_eq_true (Or.inr (Or.inl a5)), if_pos rfl, zl_e]; rfl
        · rw [if_neg a5]
          by_cases a6 : zgI w 14 0 e = 6
          · rw [if_neg (show ¬ ¬ zgI w 14 0 e = 6 from fun y => y a6), decide_eq_true (Or.inr (Or.inr a6)), if_pos rfl, zl_e]; rfl
          · rw [if_pos a6, decide_eq_false (show ¬ (zgI w 14 0 e = 4 ∨ zgI w 14 0 e = 5 ∨ zgI w 14 0 e = 6) from fun y => by
            rcases y with y | y | y
            · exact a4 y
            · exact a5 y
            · exact a6 y), if_neg (show ¬ false = true by decide)]; rfl
/-- the whole reading of the model's -/
def rsM (w : St) (e b : Nat) : Int32 := if zgA w 182 0 b ≤ zgI w 14 46 e then 1 else if bkB w b (zgI w 14 46 e).toNatClampNeg = rbM w e then 0 else 1
def rxM (w : St) (e b : Nat) : St := zsI (zsI (rwM w e) 19 26 0 (zgI w 19 26 0 + rsM w e b)) 14 46 e (zgI w 14 46 e + 1)
theorem rwM_I (w : St) (e : Nat) : ∀ k j o, ¬ (k = 14 ∧ (j = 18 ∨ j = 32) ∧ o = e) → zgI (rwM w e) k j o = zgI w k j o := fun k j o q => by
  unfold rwM
  split
  · rw [zgI_sI, zgI_sI, if_neg (by omega), if_neg (by omega)]
  · rw [zgI_sI, if_neg (by omega)]
theorem rwM_A (w : St) (e : Nat) : (∀ k o i, zgA (rwM w e) k o i = zgA w k o i) ∧ ∀ k o i, zgL (rwM w e) k o i = zgL w k o i := by
  unfold rwM
  split <;> exact ⟨fun _ _ _ => rfl, fun _ _ _ => rfl⟩
theorem zm_readX {w : St} {e b p N : Nat} (hb : b < 2592) (h45 : zgI w 14 45 e = Int32.ofNat b) (h46 : zgI w 14 46 e = Int32.ofNat p) (hp : p < 2147483648) : fX19_read N 0 e w = some (rbM w e, rxM w e b) := by
  have i45 : zgI (rwM w e) 14 45 e = Int32.ofNat b := (rwM_I w e 14 45 e (by omega)).trans h45
  have i46 : zgI (rwM w e) 14 46 e = Int32.ofNat p := (rwM_I w e 14 46 e (by omega)).trans h46
  have i26 : zgI (rwM w e) 19 26 0 = zgI w 19 26 0 := rwM_I w e 19 26 0 (by omega)
  have i182 : zgA (rwM w e) 182 0 b = zgA w 182 0 b := (rwM_A w e).1 182 0 b
  have ib : bkB (rwM w e) b p = bkB w b p := by unfold bkB; rw [(rwM_A w e).2]
  have e46 : ∀ s, zgI (zsI (rwM w e) 19 26 0 s) 14 46 e = zgI w 14 46 e := fun s => by rw [zgI_sI, if_neg (by omega), i46, h46]
  unfold fX19_read fX19_read_49 fX19_read_50 fX19_read_65 rxM rsM
  rw [zm_readF, zc_e, i45, if_neg (zo_ne1 (by omega)), zkk hb (by omega), zoC (show b < 2147483648 by omega), i182, i46, h46, zoC hp]
  by_cases c1 : zgA w 182 0 b ≤ Int32.ofNat p
  · rw [if_pos c1, if_pos c1, if_pos (show (0 : Int32) = 0 from rfl), zl_e, e46, zl_e, i26, h46]
  · rw [if_neg c1, if_neg c1, zm_written hb hp, zc_e, ib]
    by_cases c2 : bkB w b p = rbM w e
    · rw [if_neg (show ¬ ¬ bkB w b p = rbM w e from fun y => y c2), if_pos c2, if_neg (show ¬ (1 : Int32) = 0 by decide), zl_e, e46, zl_e, i26, h46]
    · rw [if_pos (show ¬ bkB w b p = rbM w e from c2), if_neg c2, if_pos (show (0 : Int32) = 0 from rfl), zl_e, e46, zl_e, i26, h46]
/-- an alarm set before or behind the reading -/
def alM (e : Nat) (t : Int32) (w : St) : St := zsI (zsI w 14 33 e 1) 14 34 e t
theorem alM_I {e : Nat} {t : Int32} {w : St} {k j o : Nat} (h : ¬ (k = 14 ∧ (j = 33 ∨ j = 34) ∧ o = e)) : zgI (alM e t w) k j o = zgI w k j o := by
  unfold alM; rw [zgI_sI, zgI_sI, if_neg (by omega), if_neg (by omega)]
theorem alM_s {e k j o : Nat} {t v : Int32} {w : St} (h : ¬ (k = 14 ∧ (j = 33 ∨ j = 34) ∧ o = e)) : zsI (alM e t w) k j o v = alM e t (zsI w k j o v) := by
  unfold alM
  rw [zsI_cm _ t v (by omega), zsI_cm _ 1 v (by omega)]
theorem rxM_al {w : St} {e b : Nat} {t : Int32} : rxM (alM e t w) e b = alM e t (rxM w e b) ∧ rbM (alM e t w) e = rbM w e := by
  have J : ∀ j, ¬ (j = 33 ∨ j = 34) → zgI (alM e t w) 14 j e = zgI w 14 j e := fun j q => alM_I (by omega)
  have rv : ∀ u : St, rvM (alM e t u) e = rvM u e := fun u => by
    unfold rvM
    rw [alM_I (by omega), alM_I (by omega), alM_I (by omega), alM_I (by omega)]
  have rb : rbM (alM e t w) e = rbM w e := by
    unfold rbM; rw [J 18 (by omega)]; rfl
  have rt : rtM (alM e t w) e = rtM w e := by
    unfold rtM rlM
    rw [J 15 (by omega), J 18 (by omega), J 0 (by omega), rv, alM_s (by omega), rv]
  have rw_ : rwM (alM e t w) e = alM e t (rwM w e) := by
    unfold rwM
    rw [rt, J 18 (by omega), alM_s (by omega), alM_s (by omega)]
    split <;> rfl
  refine ⟨?_, rb⟩
  unfold rxM
  rw [rw_, J 46 (by omega), alM_I (show ¬ (19 = 14 ∧ (26 = 33 ∨ 26 = 34) ∧ 0 = e) by omega), show rsM (alM e t w) e b = rsM w e b from by
    unfold rsM
    rw [rb, J 46 (by omega)]; rfl, alM_s (by omega), alM_s (by omega)]
