/-! a box stirs, both sides -/
theorem zNC_nowS {z : St} {T : Tp} {E : Ev} {g : Sg} {X : List Nat} {t : Nat} (h : zNC z T E g X) : zNC (zsI z 11 5 0 (Int32.ofNat t)) T E (sS g t) X := by
  obtain ⟨h1, h2, h3, h4, h5, h6, h7, h8, h9, hX⟩ := h
  have f : zFr 0x2000000000000000000000000000000000000000000000000000000000000000000000000000000000000000000000000000000000000000000000000000000000000000000000000000000000000000000000000000000000 z (zsI z 11 5 0 (Int32.ofNat t)) := zFr_I (zFr_rf _ _) (by decide)
  have I7 : ∀ j u, zgI (zsI z 11 5 0 (Int32.ofNat t)) 7 j u = zgI z 7 j u := fun j u => by rw [zgI_sI, if_neg (by omega)]
  exact ⟨zTC_fr f (by decide) h1, h2, zEc_fr f (by decide) h3, h4, zNd_now h5, zWc_fr (g := sS g t) f (by decide) (fun u _ => ⟨fun j => I7 j u, fun _ => rfl⟩) h6, zAc_fr (g := sS g t) f (by decide) h7, zHc_fr (g := sS g t) f (by decide) h8, ⟨(I7 3 1).trans h9.1, h9.2⟩, hX⟩
theorem zIp_stir {z w : St} {T : Tp} {E : Ev} {g : Sg} {Wy : Wyt} {R : Rg} {mk : Nat → Nat} {K : Int32 → Int32 → Int32 → Prop} {X XM TS TA TB : List Nat} {t : Nat} (hp : zIp z w T E g g Wy R mk K X XM TS TA TB) : zIp (zsI z 11 5 0 (Int32.ofNat t)) (zsI w 19 27 0 (Int32.ofNat t)) T E (sS g t) (sS g t) Wy R mk K X XM TS TA TB := by
  obtain ⟨⟨p1, p2, p3, p4, ⟨p5, p6, p7⟩, p8, p9, p10⟩, hR, hW⟩ := hp
  have f : zFr 0x2000000000000000000000000000000000000000000000000000000000000000000000000000000000000000000000000000000000000000000000000000000000000000000000000000000000000000000000000000000000 z (zsI z 11 5 0 (Int32.ofNat t)) := zFr_I (zFr_rf _ _) (by decide)
  have fm : zFr 0x80000000000000000000000000000000000000000000000000000000000000000000000000000000000000000000000000000000000000000000000000000000000000000000000000000000000000000000000000000000000000000000000000000000000000000000000000000000000000000000000000000000000000000000000000000000000000000000000000000000000000000000000 w (zsI w 19 27 0 (Int32.ofNat t)) := zFr_I (zFr_rf _ _) (by decide)
  exact ⟨⟨zNC_nowS p1, zMV_now p2, p3, p4, ⟨zWyc_fr f (by decide) p5, zWym_fr fm (by decide) p6, p7⟩, zRE_fr f (by decide) fm (by decide) p8, zUt_keepM fm (by decide) (zUt_keepC (fun _ _ _ => rfl) p9), (by rw [zgI_sI, if_neg (by omega)]; exact p10)⟩, zRg_same hR (fun _ => rfl), hW⟩
/-! the probe's alarm comes behind what is taken out: the class's own order -/
def hasNewB (z : St) (e : Nat) : Bool := if zgI z 6 3 e < zgI z 6 2 e then true else if zgI z 6 8 e = 0 then false else if ¬ zgI z 6 9 e = 0 then false else true
theorem zc_hasNewB (z : St) (e N : Nat) : fX6_hasNew N e z = some (zbi (hasNewB z e), z) := by
  unfold fX6_hasNew fX6_hasNew_25 hasNewB
  by_cases c : zgI z 6 3 e < zgI z 6 2 e
  · rw [if_pos c, if_pos c]; rfl
  · rw [if_neg c, if_neg c]
    by_cases d : zgI z 6 8 e = 0
    · rw [if_pos d, if_pos d]; rfl
    · rw [if_neg d, if_neg d]
      by_cases f : zgI z 6 9 e = 0
      · rw [if_neg (fun y => y f), if_neg (fun y => y f)]; rfl
      · rw [if_pos f, if_pos f]; rfl
def armB (z : St) (e : Nat) : Bool := if ¬ zgI z 10 0 e = 0 then false else if stN (zgI z 3 0 e) = false then false else if ¬ zgI z 6 5 e = zgI z 6 6 e then false else if ¬ zgI z 6 11 e = 0 then false else hasNewB z e
theorem zc_armB {z : St} {e N : Nat} (v : Int32) (h16 : zgR z 3 16 e = some e) (h18 : zgR z 3 18 e = some e) : fX3_armProbe N e v z = some (0, if armB z e = true then zsI z 10 0 e (v + zgI z 10 2 e) else z) := by
  unfold fX3_armProbe armB
  rw [h18, zl_e, zd_e]
  by_cases c0 : zgI z 10 0 e = 0
  · rw [if_neg (show ¬ ¬ zgI z 10 0 e = 0 from fun y => y c0), if_neg (show ¬ ¬ zgI z 10 0 e = 0 from fun y => y c0), zc_sendsNew, zc_e]
    cases c1 : stN (zgI z 3 0 e) with
    | false => rw [if_pos (show zbi false = 0 from rfl)]; rfl
    | true =>
      rw [if_neg (show ¬ zbi true = 0 by decide), if_neg (show ¬ true = false by decide), h16, zl_e, zd_e, zc_unthanked, zc_e]
      by_cases c2 : zgI z 6 5 e = zgI z 6 6 e
      · rw [decide_eq_false (fun y => y c2), if_pos (show zbi false = 0 from rfl), if_neg (show ¬ ¬ zgI z 6 5 e = zgI z 6 6 e from fun y => y c2), h16, zl_e, zd_e]
        by_cases c3 : zgI z 6 11 e = 0
        · rw [if_neg (show ¬ ¬ zgI z 6 11 e = 0 from fun y => y c3), if_neg (show ¬ ¬ zgI z 6 11 e = 0 from fun y => y c3), zl_e, zd_e, zc_hasNewB, zc_e]
          cases c4 : hasNewB z e with
          | false => rw [if_pos (show zbi false = 0 from rfl)]; rfl
          | true => rw [if_neg (show ¬ zbi true = 0 by decide), h18, zl_e, zl_e, zd_e, zd_e, zl_e, if_pos rfl]
        · rw [if_pos (show ¬ zgI z 6 11 e = 0 from c3), if_pos (show ¬ zgI z 6 11 e = 0 from c3)]; rfl
      · rw [decide_eq_true c2, if_neg (show ¬ zbi true = 0 by decide), if_pos (show ¬ zgI z 6 5 e = zgI z 6 6 e from c2)]; rfl
  · rw [if_pos (show ¬ zgI z 10 0 e = 0 from c0), if_pos (show ¬ zgI z 10 0 e = 0 from c0)]; rfl
theorem armB_cg {z y : St} {e : Nat} (h10 : zgI y 10 0 e = zgI z 10 0 e) (h3 : zgI y 3 0 e = zgI z 3 0 e) (h6 : ∀ j, zgI y 6 j e = zgI z 6 j e) : armB y e = armB z e := by
  unfold armB hasNewB
  rw [h10, h3, h6, h6, h6, h6, h6, h6, h6]
