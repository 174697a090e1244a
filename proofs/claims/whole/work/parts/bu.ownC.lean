/-! routers: the class's own advert -/
theorem ze_inj {e e' : En} (h1 : e.2.1 < 256) (h2 : e.2.2 < 4096) (h3 : e'.2.1 < 256) (h4 : e'.2.2 < 4096) (h : ze e = ze e') : e = e' := by
  obtain ⟨a, b, c⟩ := e
  obtain ⟨a', b', c'⟩ := e'
  have h : a * 1048576 + b * 4096 + c = a' * 1048576 + b' * 4096 + c' := h
  have h1 : b < 256 := h1
  have h2 : c < 4096 := h2
  have h3 : b' < 256 := h3
  have h4 : c' < 4096 := h4
  have e1 : a = a' := by omega
  have e2 : b = b' := by omega
  have e3 : c = c' := by omega
  rw [e1, e2, e3]
theorem ze_lt {e : En} (h : e.1 ≤ 16 ∧ e.2.1 < 24 ∧ 1 ≤ e.2.2 ∧ e.2.2 ≤ 1000) : ze e < 2147483648 := by
  unfold ze; omega
theorem zc_tellsDraft {z : St} {b num t N : Nat} {L L0 : List En} {Ba : Nat → Option Ad} (hD : zDr z b L) (hB : zRCb z b Ba) (hb : b < 16) (e : Ba b = some (num, t, L0)) (hL : zEn L) (hL0 : zEn L0) (hN : 24 < N) : fX0_tellsDraft N b (Int32.ofNat b) z = some (zbi (decide (L0 = L)), z) := by
  have hB' := hB b hb
  rw [e] at hB'
  obtain ⟨-, -, b102, b104⟩ := hB'
  have b102 : zgA z 102 b b = Int32.ofNat L0.length := b102
  have b104 : ∀ i e, L0[i]? = some e → zgA z 104 (b * 16 + b) i = Int32.ofNat (ze e) := b104
  have hl := hL.1
  have hl0 := hL0.1
  unfold fX0_tellsDraft
  rw [zkk hb (by omega), zoC (by omega), b102, hD.1]
  by_cases cl : L0.length = L.length
  · rw [if_pos (by rw [cl])]
    have loop : ∀ (m i nn : Nat), i + m = L.length → m < nn → (∀ j, j < i → L0[j]? = L[j]?) → fX0_tellsDraft_17 N nn b (Int32.ofNat b) (Int32.ofNat i) z = some (zbi (decide (L0 = L)), z) := by
      intro m
      induction m with
      | zero =>
        intro i nn hi hn he
        obtain ⟨nn, rfl⟩ : ∃ k, nn = k + 1 := ⟨nn - 1, by omega⟩
        have : i = L.length := by omega
        subst this
        have eq : L0 = L := List.ext_getElem? (fun j => by
          by_cases c : j < L.length
          · exact he j c
          · rw [List.getElem?_eq_none (by omega), List.getElem?_eq_none (by omega)])
        show fX0_tellsDraft_17b N (fX0_tellsDraft_17 N nn) b (Int32.ofNat b) (Int32.ofNat L.length) z = _
        unfold fX0_tellsDraft_17b
        rw [hD.1, if_pos (Int32.le_refl _), decide_eq_true eq]; rfl
      | succ m ih =>
        intro i nn hi hn he
        obtain ⟨nn, rfl⟩ : ∃ k, nn = k + 1 := ⟨nn - 1, by omega⟩
        have g : L[i]? = some L[i] := List.getElem?_eq_getElem (by omega)
        have g0 : L0[i]? = some L0[i] := List.getElem?_eq_getElem (by omega)
        have x := hL.2 _ (List.mem_of_getElem? g)
        have x0 := hL0.2 _ (List.mem_of_getElem? g0)
        show fX0_tellsDraft_17b N (fX0_tellsDraft_17 N nn) b (Int32.ofNat b) (Int32.ofNat i) z = _
        unfold fX0_tellsDraft_17b
        rw [hD.1, if_neg (by rw [zo_le (by omega) (by omega)]; omega), zkk hb (by omega), zkk (show i < 24 by omega) (by omega), zkk (show i < 24 by omega) (by omega), zoC (show b < 2147483648 by omega), zoC (show i < 2147483648 by omega), b104 i _ g0, hD.2 i _ g]
        by_cases c : L0[i] = L[i]
        · rw [if_pos (by rw [c]), zo_i1, zl_e]
          exact ih (i + 1) nn (by omega) (by omega) (fun j hj => by
            by_cases d : j < i
            · exact he j d
            · have : j = i := by omega
              rw [this, g, g0, c])
        · have ne : L0 ≠ L := fun q => c (by
            have g1 : L0[i]? = some L[i] := by rw [← g, q]
            rw [g0] at g1
            exact Option.some.inj g1)
          rw [if_neg (fun q => c (ze_inj (by omega) (by omega) (by omega) (by omega) ((zo_eq (ze_lt x0) (ze_lt x)).mp q))), decide_eq_false ne]; rfl
    exact loop L.length 0 N (by omega) (by omega) (fun j hj => by omega)
  · have ne : L0 ≠ L := fun q => cl (by rw [q])
    rw [if_neg (by rw [zo_eq (by omega) (by omega)]; exact cl), decide_eq_false ne]; rfl
def bLs (Ba : Nat → Option Ad) (b : Nat) : Option (List En) := (Ba b).map (fun a => a.2.2)
def rMak (now b : Nat) (D : List En) (s : Rs) : Rs := (hAll (rH s) b none now, rT s, bSet (rB s) b (some (max (ro s) (rh s) + 1, now, D)), now, max (ro s) (rh s) + 1, rh s)
/-- a router's own advert, made anew where it is due or tells otherwise -/
def rOwn (now b : Nat) (D : List En) (s : Rs) : Rs :=
  if ro s ≠ 0 ∧ now < rm s + 10 then s else
  if (ro s = 0 ∨ ro s < rh s ∨ rm s + 2000 ≤ now) ∨ bLs (rB s) b ≠ some D then rMak now b D s else s
def zOw (b : Nat) (s : Rs) : Prop := (ro s = 0 ∧ rB s b = none) ∨ (1 ≤ ro s ∧ ∃ L, rB s b = some (ro s, rm s, L) ∧ zEn L)
theorem zOw_num {b : Nat} {s : Rs} (h : zOw b s) : bNum (rB s) b = ro s := by
  unfold bNum
  rcases h with ⟨h1, h2⟩ | ⟨-, L, h2, -⟩
  · rw [h2, h1]
  · rw [h2]
theorem zc_makeOwn {z : St} {T : Tp} {E : Ev} {tl : Nat → Nat} {b N : Nat} {s : Rs} (hT : zTC z T) (hc : zTc T) (hE : zEc z T E) (hE4 : eN E ≤ 400000) (hb : b < tb T) (hr : tr T b = true) (hTl : zTlC z T tl) (hR : zRcl z b s) (hw : zRw T E b s) (hOw : zOw b s) (hf : zgI z 9 10 b = 0 → bLs (rB s) b = some (rDr T E tl b (fks (rH s)))) (hN : 24 < N) :
    ∃ z', fX11_makeOwnAdvert N 0 b z = some (0, z') ∧ zRcl z' b (rOwn (eN E) b (rDr T E tl b (fks (rH s))) s) ∧ (∀ k j o, ¬ (k = 0 ∧ (j = 6 ∨ j = 7 ∨ j = 8 ∨ j = 9) ∧ o = b) → ¬ (k = 9 ∧ (j = 5 ∨ j = 10) ∧ o = b) → zgI z' k j o = zgI z k j o) ∧
      ((zgI z' 9 10 b = zgI z 9 10 b ∧ rOwn (eN E) b (rDr T E tl b (fks (rH s))) s = s) ∨ (zgI z' 9 10 b = 0 ∧ bLs (rB (rOwn (eN E) b (rDr T E tl b (fks (rH s))) s)) b = some (rDr T E tl b (fks (rH s))))) ∧
      ((zgI z' 0 9 b = zgI z 0 9 b ∧ rB (rOwn (eN E) b (rDr T E tl b (fks (rH s))) s) = rB s) ∨ zgI z' 0 9 b = 1) ∧ zKr b z z' := by
  obtain ⟨cH, cK, cT, cB, c7, c8⟩ := id hR
  obtain ⟨wH, wN, wT, wB, wm⟩ := id hw
  have hb16 : b < 16 := Nat.lt_of_lt_of_le hb hc.1
  have h16 := wH.1.2.2
  obtain ⟨hD, hD22⟩ := rDr_en (E := E) hc hb (fun p hp => (hTl p hp).2) wH.1.2.1 h16
  obtain ⟨y0, d1, d2, d3⟩ := zc_draftAdvert (N := N) hT hc hE hb hr hTl cH cK wH hN
  generalize hDD : rDr T E tl b (fks (rH s)) = D at *
  have own := zOw_num hOw
  have e100 : zgA z 100 b b = Int32.ofNat (ro s) := by rw [← own]; exact bNum_c cB hb16
  obtain ⟨k110, r912, k00⟩ := hT.2.2.1.1 b hb hr
  have k10 : zgI z 1 0 b = Int32.ofNat b := (hT.2.1.2 b hb).2.1
  have htn : zgI z 11 1 0 = Int32.ofNat (tn T) := hT.1.2.1
  have hM : max (ro s) (rh s) ≤ 16000000 := by omega
  generalize hMM : max (ro s) (rh s) = M at *
  have hMo : ro s ≤ M := by omega
  have hMh : rh s ≤ M := by omega
  -- the advert is made
  have make : ∀ y : St, zDr y b D → (∀ k j o, ¬ (k = 0 ∧ j = 6 ∧ o = b) → ¬ (k = 9 ∧ j = 10 ∧ o = b) → zgI y k j o = zgI z k j o) → (∀ k o i, ¬ (k = 105 ∧ o = b) → zgA y k o i = zgA z k o i) → zKr b z y → zgI y 9 10 b = 0 → ∃ z', fX11_makeOwnAdvert_121 N 0 b b b y = some (0, z') ∧ zRcl z' b (rMak (eN E) b D s) ∧ (∀ k j o, ¬ (k = 0 ∧ (j = 6 ∨ j = 7 ∨ j = 8 ∨ j = 9) ∧ o = b) → ¬ (k = 9 ∧ (j = 5 ∨ j = 10) ∧ o = b) → zgI z' k j o = zgI z k j o) ∧ zgI z' 9 10 b = 0 ∧ zgI z' 0 9 b = 1 ∧ zKr b z z' := fun y yD yI yA yK y0 => by
    let z1 : St := zsI y 0 8 b (Int32.ofNat (M + 1))
    let z2 : St := zsI z1 0 7 b (Int32.ofNat (eN E))
    have I2 : ∀ k j o, zgI z2 k j o = if k = 0 ∧ j = 7 ∧ o = b then Int32.ofNat (eN E) else if k = 0 ∧ j = 8 ∧ o = b then Int32.ofNat (M + 1) else zgI y k j o := fun k j o => by
      show zgI (zsI (zsI y 0 8 b _) 0 7 b _) k j o = _
      rw [zgI_sI, zgI_sI]
    have A2 : ∀ k o i, zgA z2 k o i = zgA y k o i := fun _ _ _ => rfl
    have D2 : zDr z2 b D := ⟨by rw [I2, if_neg (by omega), if_neg (by omega)]; exact yD.1, yD.2⟩
    have B2 : zRCb z2 b (rB s) := zRCb_cg (fun k i hk => (A2 k b i).trans (yA k b i (by omega))) (fun o i _ _ => (A2 104 o i).trans (yA 104 o i (by omega))) cB
    obtain ⟨z3, t1, t2, t3, t4, t5, t6⟩ := zc_takeDraft (num := M + 1) (now := eN E) (N := N) D2 B2 hb16 (by omega) hN
    have I3 : ∀ k j o, ¬ (k = 0 ∧ j = 6 ∧ o = b) → ¬ (k = 0 ∧ j = 7 ∧ o = b) → ¬ (k = 0 ∧ j = 8 ∧ o = b) → ¬ (k = 0 ∧ j = 9 ∧ o = b) → ¬ (k = 9 ∧ j = 10 ∧ o = b) → zgI z3 k j o = zgI z k j o := fun k j o n1 n2 n3 n4 n5 => by
      rw [t3 k j o n4, I2, if_neg n2, if_neg n3]; exact yI k j o n1 n5
    have A3 : ∀ k o i, ¬ (k = 105 ∧ o = b) → ¬ ((k = 100 ∨ k = 101 ∨ k = 102) ∧ o = b) → ¬ (k = 104 ∧ b * 16 ≤ o ∧ o < b * 16 + 16) → zgA z3 k o i = zgA z k o i := fun k o i n1 n2 n3 => by
      rw [t5 k o i n2 n3, A2]; exact yA k o i n1
    have K3 : zRCk z3 b (rH s) := zRCk_cz (I3 9 5 b (by omega) (by omega) (by omega) (by omega) (by omega)) (fun i => A3 132 b i (by omega) (by omega) (by omega)) (fun i => A3 133 b i (by omega) (by omega) (by omega)) (fun o i _ _ => A3 135 o i (by omega) (by omega) (by omega)) cK
    have H3 : zRCh z3 b (rH s) := zRCh_cg (I3 9 1 b (by omega) (by omega) (by omega) (by omega) (by omega)) (fun i => A3 131 b i (by omega) (by omega) (by omega)) cH
    obtain ⟨z4, u1, u2, u3, u4, u5, u6⟩ := zc_setDueToAll (r := b) (now := eN E) (but := none) (N := N) K3 H3 wH hb16 hE4 (fun x hx => by cases hx) (by omega)
    have u1 : fX9_setDueToAll N b (Int32.ofNat b) (-1 : Int32) (Int32.ofNat (eN E)) z3 = some (0, z4) := u1
    have I4 : ∀ k j o, ¬ (k = 0 ∧ (j = 6 ∨ j = 7 ∨ j = 8 ∨ j = 9) ∧ o = b) → ¬ (k = 9 ∧ (j = 5 ∨ j = 10) ∧ o = b) → zgI z4 k j o = zgI z k j o := fun k j o n1 n2 => (u4 k j o (by omega)).trans (I3 k j o (by omega) (by omega) (by omega) (by omega) (by omega))
    have A4 : ∀ k o i, ¬ (k = 135 ∧ b * 96 ≤ o ∧ o < b * 96 + 96) → ¬ (k = 105 ∧ o = b) → ¬ ((k = 100 ∨ k = 101 ∨ k = 102) ∧ o = b) → ¬ (k = 104 ∧ b * 16 ≤ o ∧ o < b * 16 + 16) → zgA z4 k o i = zgA z k o i := fun k o i n0 n1 n2 n3 => (u5 k o i n0).trans (A3 k o i n1 n2 n3)
    have t2' : zRCb z3 b (rB (rMak (eN E) b D s)) := by
      show zRCb z3 b (bSet (rB s) b (some (max (ro s) (rh s) + 1, eN E, D)))
      rw [hMM]; exact t2
    refine ⟨z4, ?_, ⟨u3, u2, zRCt_cg (I4 9 9 b (by omega) (by omega)) (fun k i hk => A4 k b i (by omega) (by omega) (by omega) (by omega)) cT, zRCb_cg (fun k i hk => u5 k b i (by omega)) (fun o i _ _ => u5 104 o i (by omega)) t2', ?_, ?_⟩, I4, ?_, (u4 0 9 b (by omega)).trans t4, zKr_tr yK (zKr_tr (zKr_tr (zKr_I (Or.inr rfl)) (zKr_I (Or.inr rfl))) (zKr_tr t6 u6))⟩
    · have y8 : zgI y 0 8 b = Int32.ofNat M := (yI 0 8 b (by omega) (by omega)).trans c8
      have e1 : zgI (zsI y 0 8 b (Int32.ofNat (M + 1))) 11 4 0 = Int32.ofNat (eN E) := by
        rw [zgI_sI, if_neg (by omega)]; exact (yI 11 4 0 (by omega) (by omega)).trans hE.1
      have i10 : zgI z2 1 0 b = Int32.ofNat b := by rw [I2, if_neg (by omega), if_neg (by omega)]; exact (yI 1 0 b (by omega) (by omega)).trans k10
      have i08 : zgI z2 0 8 b = Int32.ofNat (M + 1) := by rw [I2, if_neg (by omega), if_pos ⟨rfl, rfl, rfl⟩]
      have i11 : zgI z2 11 4 0 = Int32.ofNat (eN E) := by rw [I2, if_neg (by omega), if_neg (by omega)]; exact (yI 11 4 0 (by omega) (by omega)).trans hE.1
      have j10 : zgI z3 1 0 b = Int32.ofNat b := (t3 1 0 b (by omega)).trans i10
      have j11 : zgI z3 11 4 0 = Int32.ofNat (eN E) := (t3 11 4 0 (by omega)).trans i11
      unfold fX11_makeOwnAdvert_121
      rw [y8, zo_i1, zl_e, e1, zl_e]
      show zc (fX0_takeDraft N b (zgI z2 1 0 b) (zgI z2 0 8 b) (zgI z2 11 4 0) z2) _ = _
      rw [i10, i08, i11, t1, zc_e, j10, j11, u1, zc_e]
    · rw [u4 0 7 b (by omega), t3 0 7 b (by omega), I2, if_pos ⟨rfl, rfl, rfl⟩]; rfl
    · have : max (M + 1) (rh s) = M + 1 := by omega
      rw [u4 0 8 b (by omega), t3 0 8 b (by omega), I2, if_neg (by omega), if_pos ⟨rfl, rfl, rfl⟩]
      show Int32.ofNat (M + 1) = Int32.ofNat (max (max (ro s) (rh s) + 1) (rh s))
      rw [hMM, this]
    · rw [u4 9 10 b (by omega), t3 9 10 b (by omega), I2, if_neg (by omega), if_neg (by omega)]; exact y0
  have bNew : bLs (rB (rMak (eN E) b D s)) b = some D := by
    show (bSet (rB s) b (some (max (ro s) (rh s) + 1, eN E, D)) b).map (fun a => a.2.2) = some D
    unfold bSet
    rw [if_pos rfl]; rfl
  let y : St := zsI y0 9 10 b 0
  have yI : ∀ k j o, ¬ (k = 0 ∧ j = 6 ∧ o = b) → ¬ (k = 9 ∧ j = 10 ∧ o = b) → zgI y k j o = zgI z k j o := fun k j o n1 n2 => by
    show zgI (zsI y0 9 10 b 0) k j o = _
    rw [zgI_sI, if_neg n2]; exact d3.2.1 k j o n1
  have yA : ∀ k o i, ¬ (k = 105 ∧ o = b) → zgA y k o i = zgA z k o i := fun k o i n => d3.2.2.1 k o i n
  have yK : zKr b z y := zKr_tr d3.2.2.2 (zKr_I (Or.inl rfl))
  have y10 : zgI y 9 10 b = 0 := by
    show zgI (zsI y0 9 10 b 0) 9 10 b = 0
    rw [zgI_sI, if_pos ⟨rfl, rfl, rfl⟩]
  have yD : zDr y b D := ⟨by
    show zgI (zsI y0 9 10 b 0) 0 6 b = _
    rw [zgI_sI, if_neg (by omega)]; exact d2.1, fun i e he => d2.2 i e he⟩
  obtain ⟨zm, m1, m2, m3, m4, m5, m6⟩ := make y yD yI yA yK y10
  have r90 : ∀ x5 : Int32, fX11_makeOwnAdvert_90 N 0 b b b x5 z = (if ¬ x5 = 0 then (fX11_makeOwnAdvert_121 N 0 b b b y) else (zc (fX0_tellsDraft N b (Int32.ofNat b) y) fun r7 z8 => if r7 = 0 then (fX11_makeOwnAdvert_121 N 0 b b b z8) else (some (0, z8)))) := fun x5 => by
    unfold fX11_makeOwnAdvert_90
    rw [htn, d1, zc_e, zl_e]
    show (if ¬ x5 = 0 then (fX11_makeOwnAdvert_121 N 0 b b b y) else (zc (fX0_tellsDraft N b (zgI y 1 0 b) y) fun r7 z8 => if r7 = 0 then (fX11_makeOwnAdvert_121 N 0 b b b z8) else (some (0, z8)))) = _
    rw [yI 1 0 b (by omega) (by omega), k10]
  have r70 : fX11_makeOwnAdvert_70 N 0 b b b z = some (0, zm) := by
    unfold fX11_makeOwnAdvert_70 fX11_makeOwnAdvert_75
    rw [if_pos (by decide), r90, if_pos (by decide), m1]
  have st : fX11_makeOwnAdvert N 0 b z = (if Int32.ofNat (ro s) = 0 then (fX11_makeOwnAdvert_41 N 0 b b b (Int32.ofNat (ro s)) z) else (if Int32.ofNat (rm s + 10) ≤ Int32.ofNat (eN E) then (fX11_makeOwnAdvert_41 N 0 b b b (Int32.ofNat (ro s)) z) else (some (0, z)))) := by
    unfold fX11_makeOwnAdvert
    rw [zl_e, k110, zd_e, zl_e, r912, zd_e, k10, zkk hb16 (by omega), zoC (by omega), zl_e, e100, c7, hE.1, show (10 : Int32) = Int32.ofNat 10 from rfl, zo_add]
  have s41 : fX11_makeOwnAdvert_41 N 0 b b b (Int32.ofNat (ro s)) z = (if Int32.ofNat (ro s) = 0 then (fX11_makeOwnAdvert_70 N 0 b b b z) else (if Int32.ofNat (ro s) < Int32.ofNat M then (fX11_makeOwnAdvert_70 N 0 b b b z) else (if Int32.ofNat (eN E - rm s) < (2000 : Int32) then (fX11_makeOwnAdvert_75 N 0 b b b (0 : Int32) z) else (fX11_makeOwnAdvert_70 N 0 b b b z)))) := by
    unfold fX11_makeOwnAdvert_41
    rw [c8, hE.1, c7, zo_sub wm.1]
  have z0 : ∀ {a : Nat}, a ≤ 16000000 → (Int32.ofNat a = 0 ↔ a = 0) := fun {a} ha => by
    rw [show (0 : Int32) = Int32.ofNat 0 from rfl, zo_eq (by omega) (by omega)]
  have done : (ro s = 0 ∨ ro s < rh s ∨ rm s + 2000 ≤ eN E) ∨ bLs (rB s) b ≠ some D → ¬ (ro s ≠ 0 ∧ eN E < rm s + 10) → fX11_makeOwnAdvert N 0 b z = some (0, zm) → ∃ z', fX11_makeOwnAdvert N 0 b z = some (0, z') ∧ zRcl z' b (rOwn (eN E) b D s) ∧ (∀ k j o, ¬ (k = 0 ∧ (j = 6 ∨ j = 7 ∨ j = 8 ∨ j = 9) ∧ o = b) → ¬ (k = 9 ∧ (j = 5 ∨ j = 10) ∧ o = b) → zgI z' k j o = zgI z k j o) ∧ ((zgI z' 9 10 b = zgI z 9 10 b ∧ rOwn (eN E) b D s = s) ∨ (zgI z' 9 10 b = 0 ∧ bLs (rB (rOwn (eN E) b D s)) b = some D)) ∧ ((zgI z' 0 9 b = zgI z 0 9 b ∧ rB (rOwn (eN E) b D s) = rB s) ∨ zgI z' 0 9 b = 1) ∧ zKr b z z' := fun h1 h2 run => by
    have e : rOwn (eN E) b D s = rMak (eN E) b D s := by unfold rOwn; rw [if_neg h2, if_pos h1]
    rw [e]
    exact ⟨zm, run, m2, m3, Or.inr ⟨m4, bNew⟩, Or.inr m5, m6⟩
  by_cases ca : ro s ≠ 0 ∧ eN E < rm s + 10
  · have e : rOwn (eN E) b D s = s := by unfold rOwn; rw [if_pos ca]
    rw [e]
    refine ⟨z, ?_, hR, fun _ _ _ _ _ => rfl, Or.inl ⟨rfl, rfl⟩, Or.inl ⟨rfl, rfl⟩, zKr_rf _ _⟩
    rw [st, if_neg (fun h => ca.1 ((z0 (by omega)).mp h)), if_neg (by rw [zo_le (by omega) (by omega)]; omega)]
  · have to41 : fX11_makeOwnAdvert N 0 b z = fX11_makeOwnAdvert_41 N 0 b b b (Int32.ofNat (ro s)) z := by
      rw [st]
      by_cases c0 : ro s = 0
      · rw [if_pos ((z0 (by omega)).mpr c0)]
      · rw [if_neg (fun h => c0 ((z0 (by omega)).mp h)), if_pos (by rw [zo_le (by omega) (by omega)]; omega)]
    by_cases c0 : ro s = 0
    · exact done (Or.inl (Or.inl c0)) ca (by rw [to41, s41, if_pos ((z0 (by omega)).mpr c0), r70])
    rw [if_neg (fun h => c0 ((z0 (by omega)).mp h))] at s41
    by_cases c1 : ro s < rh s
    · exact done (Or.inl (Or.inr (Or.inl c1))) ca (by rw [to41, s41, if_pos (by rw [zo_lt (by omega) (by omega)]; omega), r70])
    rw [if_neg (by rw [zo_lt (by omega) (by omega)]; omega)] at s41
    by_cases c2 : rm s + 2000 ≤ eN E
    · exact done (Or.inl (Or.inr (Or.inr c2))) ca (by rw [to41, s41, if_neg (by rw [show (2000 : Int32) = Int32.ofNat 2000 from rfl, zo_lt (by omega) (by omega)]; omega), r70])
    rw [if_pos (by rw [show (2000 : Int32) = Int32.ofNat 2000 from rfl, zo_lt (by omega) (by omega)]; omega)] at s41
    have nd : ¬ (ro s = 0 ∨ ro s < rh s ∨ rm s + 2000 ≤ eN E) := by omega
    by_cases cf : zgI z 9 10 b = 0
    · have e : rOwn (eN E) b D s = s := by
        unfold rOwn
        rw [if_neg ca, if_neg (fun h => by
          rcases h with h | h
          · exact nd h
          · exact h (hf cf))]
      rw [e]
      refine ⟨z, ?_, hR, fun _ _ _ _ _ => rfl, Or.inl ⟨rfl, rfl⟩, Or.inl ⟨rfl, rfl⟩, zKr_rf _ _⟩
      rw [to41, s41]
      unfold fX11_makeOwnAdvert_75
      rw [if_neg (by decide), cf, if_neg (by decide)]
    · have s75 : fX11_makeOwnAdvert N 0 b z = (zc (fX0_tellsDraft N b (Int32.ofNat b) y) fun r7 z8 => if r7 = 0 then (fX11_makeOwnAdvert_121 N 0 b b b z8) else (some (0, z8))) := by
        rw [to41, s41]
        unfold fX11_makeOwnAdvert_75
        rw [if_neg (by decide), if_pos cf, r90, if_neg (by decide)]
      obtain ⟨h1, -⟩ | ⟨-, L0, h2, h3⟩ := hOw
      · exact absurd h1 c0
      have By : zRCb y b (rB s) := zRCb_cg (fun k i hk => yA k b i (by omega)) (fun o i _ _ => yA 104 o i (by omega)) cB
      rw [zc_tellsDraft (N := N) yD By hb16 h2 hD h3 hN, zc_e] at s75
      have eb : bLs (rB s) b = some L0 := by unfold bLs; rw [h2]; rfl
      by_cases cl : L0 = D
      · have e : rOwn (eN E) b D s = s := by
          unfold rOwn
          rw [if_neg ca, if_neg (fun h => by
            rcases h with h | h
            · exact nd h
            · exact h (by rw [eb, cl]))]
        rw [decide_eq_true cl, if_neg (by decide)] at s75
        rw [e]
        refine ⟨y, s75, ⟨zRCh_cg (yI 9 1 b (by omega) (by omega)) (fun i => yA 131 b i (by omega)) cH, zRCk_cz (yI 9 5 b (by omega) (by omega)) (fun i => yA 132 b i (by omega)) (fun i => yA 133 b i (by omega)) (fun o i _ _ => yA 135 o i (by omega)) cK, zRCt_cg (yI 9 9 b (by omega) (by omega)) (fun k i hk => yA k b i (by omega)) cT, By, (yI 0 7 b (by omega) (by omega)).trans c7, ((yI 0 8 b (by omega) (by omega)).trans c8).trans (by rw [hMM])⟩, fun k j o n1 n2 => yI k j o (by omega) (by omega), Or.inr ⟨y10, by rw [eb, cl]⟩, Or.inl ⟨yI 0 9 b (by omega) (by omega), rfl⟩, yK⟩
      · rw [decide_eq_false cl, if_pos (by decide)] at s75
        exact done (Or.inr (by rw [eb]; exact fun q => cl (Option.some.inj q))) ca (s75.trans m1)
