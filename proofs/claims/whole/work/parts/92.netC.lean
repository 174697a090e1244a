/-! the class's side of the network: parcels, the calendar, putting a frame -/
def zPC (m : Nat) (z : St) (x : Nat) (D : Dg) : Prop := (∀ j, j < m → j ≠ 8 → zgI z 7 j x = D.1 j) ∧ ∀ i, i < dl D → zgA z 125 x i = D.2 (df D + i)
theorem zPC_cg {m : Nat} {z z' : St} {x : Nat} {D : Dg} (h1 : ∀ j, j < m → zgI z' 7 j x = zgI z 7 j x) (h2 : ∀ i, zgA z' 125 x i = zgA z 125 x i) (h : zPC m z x D) : zPC m z' x D := ⟨fun j a b => (h1 j a).trans (h.1 j a b), fun i a => (h2 i).trans (h.2 i a)⟩
theorem zPC_le {m m' : Nat} {z : St} {x : Nat} {D : Dg} (hm : m' ≤ m) (h : zPC m z x D) : zPC m' z x D := ⟨fun j a b => h.1 j (by omega) b, h.2⟩
theorem zq_e {β : Type} {c : Prop} {dc : Decidable c} {k : Option β} (h : c) : zq c k = k := if_pos h
theorem zando {k : Nat} (h : k < 4294967296) : Int32.ofNat k &&& (255 : Int32) = Int32.ofNat (k % 256) := by
  apply zun_inj
  rw [zand255, zun_of h, zun_of (by omega)]
/-- a part of a parcel is copied into another one -/
theorem zc_copyPart {z : St} {x y a b N : Nat} {D : Dg} (t n s : Int32) (hxy : x ≠ y) (h : zPC 11 z x D) (hw : zDw D) (ha : a + b ≤ dl D) (hb : 1 ≤ b) : ∃ z', fX7_copyPart N y x (Int32.ofNat a) (Int32.ofNat b) z = some (0, z') ∧ (∀ u j, u ≠ y → zgI z' 7 j u = zgI z 7 j u) ∧ (∀ u i, u ≠ y → zgA z' 125 u i = zgA z 125 u i) ∧ (∀ j, 11 ≤ j → zgI z' 7 j y = zgI z 7 j y) ∧ zPC 11 z' y (dCut D a b t n s) ∧ (∀ k j o, k ≠ 7 → zgI z' k j o = zgI z k j o) := by
  obtain ⟨h6, h5, h7, hl, hw', h1⟩ := hw
  have e : fX7_copyPart N y x (Int32.ofNat a) (Int32.ofNat b) z = some (0, zcp (zsI (zsI (zsI (zsI (zsI (zsI (zsI (zsI (zsI (zsI z 7 0 y (zgI z 7 0 x)) 7 1 y (zgI z 7 1 x)) 7 2 y (zgI z 7 2 x)) 7 3 y (zgI z 7 3 x)) 7 4 y (zgI z 7 4 x)) 7 9 y (zgI z 7 9 x)) 7 10 y (zgI z 7 10 x)) 7 7 y (zgI z 7 7 x)) 7 5 y (zgI z 7 5 x + Int32.ofNat a)) 7 6 y (Int32.ofNat b)) x y (Int32.ofNat a) 0 (Int32.ofNat b)) := by
    unfold fX7_copyPart
    simp only [zl_e, zgI_sI, hxy, and_false, if_false]
    rw [if_neg (zo_nn (by omega)), if_neg (by rw [show (0 : Int32) = Int32.ofNat 0 from rfl, zo_le (by omega) (by omega)]; omega), if_neg (by rw [zo_add, show (1480 : Int32) = Int32.ofNat 1480 from rfl, zo_lt (by omega) (by omega)]; omega), zq_e]
    refine ⟨zo_nn (by omega), by decide, zo_nn (by omega), ?_, ?_⟩
    · rw [zoC (by omega), zoC (by omega)]; omega
    · rw [show (0 : Int32).toNatClampNeg = 0 from rfl, zoC (by omega)]; omega
  refine ⟨_, e, ?_, ?_, ?_, ⟨?_, ?_⟩, ?_⟩
  · intro u j hu
    simp only [zcp, zgI_sC, zgI_sI, hu, and_false, if_false]
  · intro u i hu
    simp only [zcp, zgA_sC, zgA_sI, hu, and_false, if_false]
  · intro j hj
    simp only [zcp, zgI_sC, zgI_sI, and_true, true_and]
    rw [if_neg (by omega), if_neg (by omega), if_neg (by omega), if_neg (by omega), if_neg (by omega), if_neg (by omega), if_neg (by omega), if_neg (by omega), if_neg (by omega), if_neg (by omega)]
  · intro j hj h8
    have hh := h.1
    simp only [zcp, zgI_sC, zgI_sI, and_true, true_and]
    have : j = 0 ∨ j = 1 ∨ j = 2 ∨ j = 3 ∨ j = 4 ∨ j = 5 ∨ j = 6 ∨ j = 7 ∨ j = 9 ∨ j = 10 := by omega
    rcases this with rfl | rfl | rfl | rfl | rfl | rfl | rfl | rfl | rfl | rfl
    · simp [dCut, hh 0 (by omega) (by omega)]
    · simp [dCut, hh 1 (by omega) (by omega)]
    · simp [dCut, hh 2 (by omega) (by omega)]
    · simp [dCut, hh 3 (by omega) (by omega)]
    · simp [dCut, hh 4 (by omega) (by omega)]
    · rw [hh 5 (by omega) (by omega), h5]
      simp only [show ¬ (5 : Nat) = 6 by decide, false_and, if_false, true_and, if_true]
      exact zo_add _ _
    · simp [dCut]
    · simp [dCut, hh 7 (by omega) (by omega)]
    · simp [dCut, hh 9 (by omega) (by omega)]
    · simp [dCut, hh 10 (by omega) (by omega)]
  · intro i hi
    rw [dCut_l (by omega)] at hi
    rw [dCut_f (by omega)]
    have e2 : zgA (zcp (zsI (zsI (zsI (zsI (zsI (zsI (zsI (zsI (zsI (zsI z 7 0 y (zgI z 7 0 x)) 7 1 y (zgI z 7 1 x)) 7 2 y (zgI z 7 2 x)) 7 3 y (zgI z 7 3 x)) 7 4 y (zgI z 7 4 x)) 7 9 y (zgI z 7 9 x)) 7 10 y (zgI z 7 10 x)) 7 7 y (zgI z 7 7 x)) 7 5 y (zgI z 7 5 x + Int32.ofNat a)) 7 6 y (Int32.ofNat b)) x y (Int32.ofNat a) 0 (Int32.ofNat b)) 125 y i = zgA z 125 x (a + i) := by
      simp only [zcp, zgA_sC, zgA_sI, and_self, if_true]
      unfold va_cpy
      rw [zoC (by omega), zoC (by omega), show (0 : Int32).toNatClampNeg = 0 from rfl, if_pos ⟨Nat.zero_le _, by omega⟩, Nat.sub_zero]
      rfl
    rw [e2, h.2 (a + i) (by omega)]
    show D.2 (df D + (a + i)) = D.2 (df D + a + i)
    rw [Nat.add_assoc]
  · intro k j o hk
    simp only [zcp, zgI_sC, zgI_sI, hk, false_and, if_false]
/-- a parcel is hung in at the end of a place's row -/
theorem zc_hangIn {z : St} {x c N : Nat} (hc : c < 256) (hx : zgQ z 142 0 c ≠ some x) : ∃ z', fX11_hangIn N 0 x (Int32.ofNat c) z = some (0, z') ∧ (∀ y, zgR z' 7 14 y = if y = x then none else if zgQ z 142 0 c = some y then some x else zgR z 7 14 y) ∧ (∀ d, zgQ z' 141 0 d = if d = c then (if zgQ z 142 0 c = none then some x else zgQ z 141 0 c) else zgQ z 141 0 d) ∧ (∀ d, zgQ z' 142 0 d = if d = c then some x else zgQ z 142 0 d) ∧ (∀ k j o, zgI z' k j o = zgI z k j o) ∧ (∀ k o i, zgA z' k o i = zgA z k o i) := by
  unfold fX11_hangIn fX11_hangIn_31
  simp (disch := omega) only [zl_e, zkk, zoC, zgQ_sR]
  cases hl : zgQ z 142 0 c with
  | none =>
    rw [zo_0]
    refine ⟨_, rfl, fun y => ?_, fun d => ?_, fun d => ?_, fun _ _ _ => rfl, fun _ _ _ => rfl⟩
    · simp only [zgR_sQ, zgR_sR, true_and]
      by_cases h : y = x
      · rw [if_pos h, if_pos h]
      · rw [if_neg h, if_neg h, if_neg (by simp)]
    · simp only [zgQ_sQ, zgQ_sR, true_and, if_true, show ¬ (141 : Nat) = 142 by decide, false_and, if_false]
    · simp only [zgQ_sQ, zgQ_sR, true_and, show ¬ (142 : Nat) = 141 by decide, false_and, if_false]
  | some a =>
    rw [zo_e]
    have hax : a ≠ x := fun q => hx (by rw [hl, q])
    refine ⟨_, rfl, fun y => ?_, fun d => ?_, fun d => ?_, fun _ _ _ => rfl, fun _ _ _ => rfl⟩
    · simp only [zgR_sQ, zgR_sR, true_and]
      by_cases h : y = x
      · rw [if_neg (by rw [h]; exact fun q => hax q.symm), if_pos h, if_pos h]
      · by_cases h2 : y = a
        · rw [if_pos h2, if_neg h, if_pos (by rw [h2])]
        · rw [if_neg h2, if_neg h, if_neg h, if_neg (fun q => h2 (Option.some.inj q).symm)]
    · simp only [zgQ_sQ, zgQ_sR, show ¬ (141 : Nat) = 142 by decide, false_and, if_false]
      by_cases h : d = c
      · subst h; rw [if_pos rfl, if_neg (by simp)]
      · rw [if_neg h]
    · simp only [zgQ_sQ, zgQ_sR, true_and]
def zEw (T : Tp) (E : Ev) : Prop := eN E ≤ 400000 ∧ ∀ n, n < tn T → 100 ≤ eL E n ∧ eL E n ≤ 1500 ∧ 1 ≤ eD E n ∧ eD E n ≤ 50
def zEc (z : St) (T : Tp) (E : Ev) : Prop := zgI z 11 4 0 = Int32.ofNat (eN E) ∧ ∀ n, n < tn T → zgI z 5 1 n = Int32.ofNat (eL E n) ∧ zgI z 5 2 n = Int32.ofNat (eD E n) ∧ zgI z 5 3 n = zbi (eU E n)
def mEc : Nat := 0x1000000000000000000000000000000000000000000000000000000000000000000000000000000000000000000000000e00000000000000000000000000000000000000000000000000000000000000000000000000000000
theorem zEc_fr {M : Nat} {z z' : St} {T : Tp} {E : Ev} (f : zFr M z z') (hm : mEc &&& M = 0) (h : zEc z T E) : zEc z' T E := by
  have gI : ∀ k j o, k < 100 → mEc.testBit (64 * k + j) = true → zgI z' k j o = zgI z k j o := fun k j o hk hb => zFr_gI f hk (ztf hm hb) o
  unfold zEc
  simp (disch := decide) only [gI]
  exact h
/-- the schedules -/
def zTr (z : St) (T : Tp) (g : Sg) : Prop := ∀ n, n < tn T → (gT g n).length ≤ 64 ∧ ∃ a, a < 64 ∧ zgI z 5 5 n = Int32.ofNat a ∧ zgI z 5 6 n = Int32.ofNat (gT g n).length ∧ ∀ i x, (gT g n)[i]? = some x → zgA z 122 n ((a + i) % 64) = x
def mTr : Nat := 0x40000000000000000000000000000000000000000000000000000000000000000000000000000000000000000000000000000000000000000000000000000000000000000000000000000000000000000000000000000000000000000000000000000000000000000000000000000000000000000000000000006000000000000000000000000000000000000000000000000000000000000000000000000000000000
theorem zTr_fr {M : Nat} {z z' : St} {T : Tp} {g : Sg} (f : zFr M z z') (hm : mTr &&& M = 0) (h : zTr z T g) : zTr z' T g := by
  have gI : ∀ k j o, k < 100 → mTr.testBit (64 * k + j) = true → zgI z' k j o = zgI z k j o := fun k j o hk hb => zFr_gI f hk (ztf hm hb) o
  have gA' : ∀ k o i, mTr.testBit (1180 + k) = true → zgA z' k o i = zgA z k o i := fun k o i hb => zFr_gA f (ztf hm hb) o i
  unfold zTr
  simp (disch := decide) only [gI, gA']
  exact h
/-- counts of frames put and of pieces cut, the last stirring -/
def zCt (z : St) (T : Tp) (g : Sg) : Prop := (∀ n, n < tn T → zgI z 5 9 n = gP g n) ∧ (∀ b, b < tb T → zgA z 113 b 5 = gC g b) ∧ zgI z 11 5 0 = Int32.ofNat (gS g)
/-- the calendar and the row of spare parcels; X: those that are in neither -/
def zQq (z : St) (fr : List Fr) (X : List Nat) : Prop := ∃ (Fs : List (Nat × Fr)) (S : List Nat), Fs.map (fun f => f.2) = fr ∧ (Fs.map (fun f => f.1) ++ (S ++ X)).Nodup ∧ (∀ x, x ∈ Fs.map (fun f => f.1) ++ (S ++ X) → 2 ≤ x ∧ x < 515) ∧ fr.length + (S.length + X.length) = 513 ∧ zgI z 11 12 0 = Int32.ofNat fr.length ∧ zChn (fun x => zgR z 7 14 x) (zgR z 11 11 0) S ∧ zCal (fun x => zgR z 7 14 x) (fun c => zgQ z 141 0 c) (fun c => zgQ z 142 0 c) Fs ∧ ∀ f, f ∈ Fs → zPC 14 z f.1 f.2.2
/-- the parcels that stay as they were: all but those of frames and the spare ones -/
def zKp (X : List Nat) (z z' : St) : Prop := ∀ u, u < 2 ∨ 515 ≤ u ∨ u ∈ X → (∀ j, zgI z' 7 j u = zgI z 7 j u) ∧ ∀ i, zgA z' 125 u i = zgA z 125 u i
theorem zKp_rf (X : List Nat) (z : St) : zKp X z z := fun _ _ => ⟨fun _ => rfl, fun _ => rfl⟩
theorem zKp_tr {X : List Nat} {a b c : St} (h1 : zKp X a b) (h2 : zKp X b c) : zKp X a c := fun u hu => ⟨fun j => ((h2 u hu).1 j).trans ((h1 u hu).1 j), fun i => ((h2 u hu).2 i).trans ((h1 u hu).2 i)⟩
theorem zKp_PC {X : List Nat} {z z' : St} {m x : Nat} {D : Dg} (h : zKp X z z') (hx : x < 2 ∨ 515 ≤ x ∨ x ∈ X) (hp : zPC m z x D) : zPC m z' x D := zPC_cg (fun j _ => (h x hx).1 j) (h x hx).2 hp
def mFr1 : Nat := 0x600020000000000000000000000000000000000000000000000000000000000000000000000000000000000000000000000000000000000000000000000000000000000000000000000000018000000000000000000000000000000000000000000000000000000000000007eff0000000000000000000000000000000000000000000000000000000000000000000000000000000000000000000000000000000000000000
/-- one frame is made of a parcel and hung in -/
theorem zc_putFrame1 {z : St} {T : Tp} {E : Ev} {fr : List Fr} {X : List Nat} {q x a b arr F i N : Nat} {to : Int32} {D : Dg} {K : Nat → Nat → Int32 → Nat → Int32 → Int32 → Nat → Int32 → Int32 → Int32 → St → Option (Int32 × St)} (hT : zTC z T) (hc : zTc T) (hE : zEc z T E) (hw : zEw T E) (hQ : zQq z fr X) (hq : tv T q) (hx : x < 2 ∨ 515 ≤ x ∨ x ∈ X) (hD : zPC 11 z x D) (hDw : zDw D) (hab : a + b ≤ dl D) (hb : 1 ≤ b) (hF : F ≤ 200) (hi : i < arr) (ha : arr < 4) (hroom : fr.length + X.length < 513) :
    ∃ z', fX11_putFrame_106b N K 0 q to x (Int32.ofNat a) (Int32.ofNat b) (q / 8) (Int32.ofNat arr) (Int32.ofNat F) (Int32.ofNat i) z = K 0 q to x (Int32.ofNat a) (Int32.ofNat b) (q / 8) (Int32.ofNat arr) (Int32.ofNat (3 * eD E (q / 8))) (Int32.ofNat (i + 1)) z' ∧ zQq z' (fr ++ [(eN E + F, nQ q D to a b)]) X ∧ zKp X z z' ∧ zFr mFr1 z z' := by
  obtain ⟨Fs, S, hfs, hnd, hin, hlen, hfl, hsp, hcal, hcon⟩ := hQ
  cases S with
  | nil => simp at hlen; omega
  | cons s S =>
    have hs2 : zgR z 11 11 0 = some s := hsp.1
    have hs3 : zChn (fun x => zgR z 7 14 x) (zgR z 7 14 s) S := hsp.2
    have hsin := hin s (by simp)
    have hndF : (Fs.map (fun f => f.1)).Nodup := (List.nodup_append.mp hnd).1
    have hsF : s ∉ Fs.map (fun f => f.1) := fun m => (List.nodup_append.mp hnd).2.2 s m s (by simp) rfl
    have hndS : ((s :: S) ++ X).Nodup := (List.nodup_append.mp hnd).2.1
    have hsX : s ∉ X := fun m => (List.nodup_append.mp hndS).2.2 s (by simp) s m rfl
    have hsS : s ∉ S := by
      have := (List.nodup_append.mp hndS).1
      exact (List.nodup_cons.mp this).1
    have hxs : x ≠ s := by
      rintro rfl
      rcases hx with h | h | h
      · omega
      · omega
      · exact hsX h
    have hd := (hw.2 _ hq.1)
    have hnow := hw.1
    obtain ⟨g0, g1, g2⟩ := hE.2 _ hq.1
    obtain ⟨q0, q1, q2, q3, q4⟩ := hT.2.2.2 _ hq
    have e50 := (hT.2.1.1 _ (tv_24 hc hq)).2.1
    -- the copy
    have hD0 : zPC 11 (zsR z 11 11 0 (zgR z 7 14 s)) x D := hD
    obtain ⟨z1, c1, c2, c3, c4, c5, -⟩ := zc_copyPart (N := N) to (Int32.ofNat (q / 8)) (Int32.ofNat (q % 8)) hxs hD0 hDw hab hb
    have f1 : zFr mX7_copyPart (zsR z 11 11 0 (zgR z 7 14 s)) z1 := wX7_copyPart (Nat.and_self _) (zFr_rf _ _) _ _ c1
    have r1 : ∀ k j o, k < 100 → mX7_copyPart.testBit (64 * k + j) = false → zgI z1 k j o = zgI z k j o := fun k j o hk hb => zFr_gI f1 hk hb o
    have r2 : ∀ k j o, k < 100 → mX7_copyPart.testBit (64 * k + j) = false → zgR z1 k j o = zgR (zsR z 11 11 0 (zgR z 7 14 s)) k j o := fun k j o hk hb => zFr_gR f1 hk hb o
    have r3 : ∀ k o i, mX7_copyPart.testBit (1180 + k) = false → zgQ z1 k o i = zgQ z k o i := fun k o i hb => zFr_gQ f1 hb o i
    -- what it is hung into
    let z2 : St := zsI (zsI (zsI z1 7 12 s (Int32.ofNat (q / 8))) 7 13 s (Int32.ofNat (q % 8))) 7 11 s to
    have hcl : (eN E + F) % 256 < 256 := Nat.mod_lt _ (by decide)
    have hld : zgQ z2 142 0 ((eN E + F) % 256) = zgQ z 142 0 ((eN E + F) % 256) := r3 142 0 _ (by decide)
    have hlx : zgQ z 142 0 ((eN E + F) % 256) ≠ some s := by
      intro h
      exact hsF (zpl_mem (List.mem_of_getLast? (((hcal _ hcl).2).symm.trans h)))
    obtain ⟨z3, k1, k2, k3, k4, k5, k6⟩ := zc_hangIn (N := N) (z := z2) (x := s) hcl (by rw [hld]; exact hlx)
    have f3 : zFr mX11_hangIn z2 z3 := wX11_hangIn (Nat.and_self _) (zFr_rf _ _) _ _ k1
    have hfl2 : zgI z2 11 12 0 = Int32.ofNat fr.length := by
      show zgI z1 11 12 0 = _
      rw [r1 11 12 0 (by decide) (by decide), hfl]
    have hfl3 : zgI z3 11 12 0 = Int32.ofNat fr.length := by
      rw [zFr_gI f3 (by decide) (by decide)]; exact hfl2
    let z4 : St := zsI z3 11 12 0 (Int32.ofNat (fr.length + 1))
    have nx2 : ∀ y, zgR z2 7 14 y = zgR z 7 14 y := fun y => by
      show zgR z1 7 14 y = _
      rw [r2 7 14 y (by decide) (by decide)]
      rfl
    have hstep : fX11_putFrame_106b N K 0 q to x (Int32.ofNat a) (Int32.ofNat b) (q / 8) (Int32.ofNat arr) (Int32.ofNat F) (Int32.ofNat i) z = K 0 q to x (Int32.ofNat a) (Int32.ofNat b) (q / 8) (Int32.ofNat arr) (Int32.ofNat (3 * eD E (q / 8))) (Int32.ofNat (i + 1)) z4 := by
      unfold fX11_putFrame_106b
      rw [if_neg (by rw [zo_le (by omega) (by omega)]; omega), zl_e, hs2, zo_e, zl_e, zd_e, zl_e, zl_e, c1, zc_e]
      have a1 : zgI z1 5 0 (q / 8) = Int32.ofNat (q / 8) := by rw [r1 5 0 _ (by decide) (by decide), e50]
      rw [zl_e, a1, zl_e]
      have a2 : zgI (zsI z1 7 12 s (Int32.ofNat (q / 8))) 8 3 q = Int32.ofNat (q % 8) := by
        rw [zgI_sI, if_neg (by simp), r1 8 3 _ (by decide) (by decide), q3]
      rw [a2, zl_e]
      have a3 : zgI z2 11 4 0 = Int32.ofNat (eN E) := by
        show zgI z1 11 4 0 = _
        rw [r1 11 4 _ (by decide) (by decide), hE.1]
      show zc (fX11_hangIn N 0 s ((zgI z2 11 4 0 + Int32.ofNat F) &&& 255) z2) _ = _
      rw [a3, zo_add, zando (by omega), k1, zc_e, zl_e, hfl3, zo_i1]
      show zl ((3 : Int32) * zgI z4 5 2 (q / 8)) _ = _
      have a4 : zgI z4 5 2 (q / 8) = Int32.ofNat (eD E (q / 8)) := by
        show zgI z3 5 2 (q / 8) = _
        rw [zFr_gI f3 (by decide) (by decide)]
        show zgI z1 5 2 (q / 8) = _
        rw [r1 5 2 _ (by decide) (by decide), g1]
      have a5 : (3 : Int32) * Int32.ofNat (eD E (q / 8)) = Int32.ofNat (3 * eD E (q / 8)) := (Int32.ofNat_mul 3 _).symm
      rw [a4, a5, zl_e, zl_e, zo_i1]
    refine ⟨z4, hstep, ?_, ?_, ?_⟩
    · refine ⟨Fs ++ [(s, (eN E + F, nQ q D to a b))], S, by simp [hfs], ?_, ?_, ?_, ?_, ?_, ?_, ?_⟩
      · rw [List.map_append]
        have : List.map (fun f => f.1) Fs ++ List.map (fun f => f.1) [(s, (eN E + F, nQ q D to a b))] ++ (S ++ X) = List.map (fun f => f.1) Fs ++ (s :: S ++ X) := by simp
        rw [this]
        exact hnd
      · intro y hy
        apply hin
        rw [List.map_append] at hy
        simpa using hy
      · simp only [List.length_append, List.length_cons, List.length_nil] at hlen ⊢
        omega
      · show zgI (zsI z3 11 12 0 _) 11 12 0 = _
        rw [zgI_sI, if_pos ⟨rfl, rfl, rfl⟩, List.length_append]
        rfl
      · have h11 : zgR z4 11 11 0 = zgR z 7 14 s := by
          show zgR z3 11 11 0 = _
          rw [zFr_gR f3 (by decide) (by decide)]
          show zgR z1 11 11 0 = _
          rw [r2 11 11 0 (by decide) (by decide), zgR_sR, if_pos ⟨rfl, rfl, rfl⟩]
        rw [h11]
        refine zChn_cg (fun y hy => ?_) hs3
        show zgR z3 7 14 y = _
        rw [k2 y, if_neg (by rintro rfl; exact hsS hy), hld, if_neg, nx2]
        intro h
        exact (List.nodup_append.mp hnd).2.2 y (zpl_mem (List.mem_of_getLast? (((hcal _ hcl).2).symm.trans h))) y (by simp [hy]) rfl
      · refine zCal_app (c := (eN E + F) % 256) hndF hsF hcal rfl ?_ ?_ ?_ ?_
        · show zgR z3 7 14 s = none
          rw [k2 s, if_pos rfl]
        · intro y hy
          show zgR z3 7 14 y = _
          rw [k2 y, if_neg (by rintro rfl; exact hsF hy), hld, nx2]
        · intro d hd
          show zgQ z3 141 0 d = _
          rw [k3 d, hld]
          have h141 : ∀ d, zgQ z2 141 0 d = zgQ z 141 0 d := fun d => r3 141 0 d (by decide)
          rw [h141, h141]
        · intro d hd
          show zgQ z3 142 0 d = _
          rw [k4 d]
          have h142 : ∀ d, zgQ z2 142 0 d = zgQ z 142 0 d := fun d => r3 142 0 d (by decide)
          rw [h142]
      · intro f hf
        have i3 : ∀ j u, zgI z4 7 j u = zgI z2 7 j u := fun j u => by
          show zgI (zsI z3 11 12 0 _) 7 j u = _
          rw [zgI_sI, if_neg (by simp), k5]
        have i4 : ∀ u i, zgA z4 125 u i = zgA z1 125 u i := fun u i => by
          show zgA z3 125 u i = _
          rw [zFr_gA f3 (by decide)]
          rfl
        rcases List.mem_append.mp hf with hf | hf
        · have hfs' : f.1 ≠ s := fun e => hsF (by rw [← e]; exact List.mem_map.mpr ⟨f, hf, rfl⟩)
          refine zPC_cg (fun j hj => ?_) (fun i => ?_) (hcon f hf)
          · rw [i3 j f.1]
            show zgI (zsI (zsI (zsI z1 7 12 s _) 7 13 s _) 7 11 s to) 7 j f.1 = _
            simp only [zgI_sI, hfs', and_false, if_false]
            exact c2 f.1 j hfs'
          · rw [i4]
            exact c3 f.1 i hfs'
        · obtain rfl : f = (s, (eN E + F, nQ q D to a b)) := by simpa using hf
          refine ⟨fun j hj h8 => ?_, fun i hi => ?_⟩
          · rw [i3 j s]
            show zgI (zsI (zsI (zsI z1 7 12 s _) 7 13 s _) 7 11 s to) 7 j s = _
            simp only [zgI_sI, and_true, true_and]
            by_cases j11 : j = 11
            · subst j11; rw [if_pos rfl]; rfl
            rw [if_neg j11]
            by_cases j13 : j = 13
            · subst j13; rw [if_pos rfl]; rfl
            rw [if_neg j13]
            by_cases j12 : j = 12
            · subst j12; rw [if_pos rfl]; rfl
            rw [if_neg j12]
            exact c5.1 j (by omega) h8
          · rw [i4]
            exact c5.2 i hi
    · intro u hu
      have hus : u ≠ s := by
        rintro rfl
        rcases hu with h | h | h
        · omega
        · omega
        · exact hsX h
      refine ⟨fun j => ?_, fun i => ?_⟩
      · show zgI (zsI z3 11 12 0 _) 7 j u = _
        rw [zgI_sI, if_neg (by simp)]
        rw [k5]
        show zgI (zsI (zsI (zsI z1 7 12 s _) 7 13 s _) 7 11 s to) 7 j u = _
        simp only [zgI_sI, hus, and_false, if_false]
        exact c2 u j hus
      · show zgA z3 125 u i = _
        rw [zFr_gA f3 (by decide)]
        exact c3 u i hus
    · refine zFr_I ?_ (by decide)
      refine zFr_tr ?_ (zFr_w f3 (by decide))
      refine zFr_I (zFr_I (zFr_I ?_ (by decide)) (by decide)) (by decide)
      refine zFr_tr (zFr_R (zFr_rf _ _) (by decide)) (zFr_w f1 (by decide))
