/-! routers: a datagram is made and put, both sides -/
def dMk (q : Nat) (goal kind num : Int32) (len : Nat) (B : Nat → Int32) : Dg := (fun j => if j = 0 then zad q else if j = 1 then goal else if j = 2 then kind else if j = 3 then num else if j = 4 then 1 else if j = 6 ∨ j = 7 then Int32.ofNat len else 0, B)
theorem dMk_w {q len : Nat} {goal kind num : Int32} {B : Nat → Int32} (h : len ≤ 1480) : dw (dMk q goal kind num len B) = len ∧ dl (dMk q goal kind num len B) = len ∧ df (dMk q goal kind num len B) = 0 := ⟨zoC (by omega), zoC (by omega), rfl⟩
theorem zDw_mk {q len : Nat} {goal kind num : Int32} {B : Nat → Int32} (h1 : 1 ≤ len) (h : len ≤ 1480) : zDw (dMk q goal kind num len B) := by
  obtain ⟨e1, e2, e3⟩ := dMk_w (q := q) (goal := goal) (kind := kind) (num := num) (B := B) h
  refine ⟨by rw [e2]; rfl, by rw [e3]; rfl, by rw [e1]; rfl, by rw [e1, e2, e3]; omega, by rw [e1]; exact h, by rw [e2]; exact h1⟩
/-- only the parcel that a datagram is made in changes, and the count of those that box b made -/
def zKd (b : Nat) (z z' : St) : Prop := (∀ k j o, ¬ (k = 7 ∧ (j < 8 ∨ j = 9 ∨ j = 10) ∧ o = 0) → zgI z' k j o = zgI z k j o) ∧ (∀ k o i, ¬ (k = 125 ∧ o = 0) → ¬ (k = 113 ∧ o = b ∧ i = 2) → zgA z' k o i = zgA z k o i) ∧ (∀ k o i, zgL z' k o i = zgL z k o i) ∧ (∀ k o i, zgQ z' k o i = zgQ z k o i) ∧ ∀ k o i, zgR z' k o i = zgR z k o i
theorem zKd_rf (b : Nat) (z : St) : zKd b z z := ⟨fun _ _ _ _ => rfl, fun _ _ _ _ _ => rfl, fun _ _ _ => rfl, fun _ _ _ => rfl, fun _ _ _ => rfl⟩
theorem zKd_tr {b : Nat} {x y z : St} (h1 : zKd b x y) (h2 : zKd b y z) : zKd b x z := ⟨fun k j o n => (h2.1 k j o n).trans (h1.1 k j o n), fun k o i n m => (h2.2.1 k o i n m).trans (h1.2.1 k o i n m), fun k o i => (h2.2.2.1 k o i).trans (h1.2.2.1 k o i), fun k o i => (h2.2.2.2.1 k o i).trans (h1.2.2.2.1 k o i), fun k o i => (h2.2.2.2.2 k o i).trans (h1.2.2.2.2 k o i)⟩
theorem zKd_I {b j : Nat} {z : St} {v : Int32} (h : j < 8 ∨ j = 9 ∨ j = 10) : zKd b z (zsI z 7 j 0 v) := ⟨fun k j' o n => by rw [zgI_sI, if_neg (fun y => n ⟨y.1, by rw [y.2.1]; exact h, y.2.2⟩)], fun _ _ _ _ _ => rfl, fun _ _ _ => rfl, fun _ _ _ => rfl, fun _ _ _ => rfl⟩
theorem zKd_C {b : Nat} {z : St} {f : Nat → Int32} : zKd b z (zsC z 125 0 f) := ⟨fun _ _ _ _ => rfl, fun k o i n _ => by rw [zgA_sC, if_neg n], fun _ _ _ => rfl, fun _ _ _ => rfl, fun _ _ _ => rfl⟩
theorem zKd_N {b : Nat} {z : St} {v : Int32} : zKd b z (zsA z 113 b 2 v) := ⟨fun _ _ _ _ => rfl, fun k o i _ n => by rw [zgA_sA, if_neg n], fun _ _ _ => rfl, fun _ _ _ => rfl, fun _ _ _ => rfl⟩
theorem zKd_Bg {b : Nat} {z : St} {kind len : Int32} : zKd b z (zBg z 0 kind len) := by
  unfold zBg
  exact zKd_tr (zKd_tr (zKd_tr (zKd_tr (zKd_tr (zKd_tr (zKd_I (by omega)) (zKd_I (by omega))) (zKd_I (by omega))) (zKd_I (by omega))) (zKd_I (by omega))) (zKd_I (by omega))) (zKd_I (by omega))
theorem zKd_f {b : Nat} {z z' : St} (h : zKd b z z') : zFr 0x200200000000000000000000000000000000000000000000000000000000000000000000000000000000000000000000000000000000000000000000000000000000000000000000000000000000000000000000000000000000000000000000000000000000000000006ff0000000000000000000000000000000000000000000000000000000000000000000000000000000000000000000000000000000000000000 z z' := ⟨fun k j o _ hm => ⟨h.1 k j o (fun y => by
  obtain ⟨rfl, hj, -⟩ := y
  rcases (by omega : j = 0 ∨ j = 1 ∨ j = 2 ∨ j = 3 ∨ j = 4 ∨ j = 5 ∨ j = 6 ∨ j = 7 ∨ j = 9 ∨ j = 10) with rfl | rfl | rfl | rfl | rfl | rfl | rfl | rfl | rfl | rfl <;> revert hm <;> decide), h.2.2.2.2 k j o⟩, fun k o i hm => ⟨h.2.1 k o i (fun y => by
  obtain ⟨rfl, -⟩ := y
  revert hm; decide) (fun y => by
  obtain ⟨rfl, -⟩ := y
  revert hm; decide), h.2.2.1 k o i, h.2.2.2.1 k o i⟩⟩
theorem zKd_NC {b : Nat} {z z' : St} {T : Tp} {E : Ev} {g : Sg} {X : List Nat} (h : zKd b z z') (hn : zNC z T E g X) : zNC z' T E g X := zNC_cg (zKd_f h) (by decide) (fun u h0 _ _ => ⟨fun j => h.1 7 j u (fun y => h0 y.2.2), fun i => h.2.1 125 u i (fun y => h0 y.2) (by omega)⟩) (fun c => h.2.1 113 c 5 (by omega) (by omega)) hn
theorem zKd_kr {b : Nat} {z z' : St} {c : Nat} {s : Rs} (h : zKd b z z') (hR : zRcl z c s) : zRcl z' c s := zRcl_cg (fun j _ => h.1 9 j c (by omega)) (fun j _ => h.1 0 j c (by omega)) (fun k o i hk => h.2.1 k o i (by omega) (by omega)) hR
theorem zPd_mk {T : Tp} {R : Rg} {b q len n : Nat} {goal kind : Int32} {B : Nat → Int32} (hq : tv T q) (hb : tw T q = b) (hn : n < 2147483648) (hk : ¬ kind = 1 ∧ ¬ kind = 0) (h1 : 1 ≤ len) (h : len ≤ 1480) : zPd T (rgNew R b n (dMk q goal kind (Int32.ofNat n) len B)) (dMk q goal kind (Int32.ofNat n) len B) := by
  obtain ⟨e1, e2, e3⟩ := dMk_w (q := q) (goal := goal) (kind := kind) (num := Int32.ofNat n) (B := B) h
  refine ⟨zDw_mk h1 h, ⟨q, n, hq, rfl, rfl, hn, ?_⟩, ⟨1, by omega, by omega, rfl⟩, by rw [e3], Or.inr (by rw [e1, e2, e3]; omega), fun _ => Or.inr (by rw [e1, e2]), fun y => y.elim (fun y => absurd (show kind = 1 from y) hk.1) (fun y => absurd (show kind = 0 from y) hk.2)⟩
  show (if _ then _ else _) = _
  rw [if_pos ⟨hb, rfl⟩]
/-- both sides have made it -/
theorem zIp_made {z z' w w' : St} {T : Tp} {E : Ev} {g : Sg} {Wy : Wyt} {R : Rg} {mk : Nat → Nat} {K : Int32 → Int32 → Int32 → Prop} {X XM TS TA TA' TB : List Nat} {b d q len : Nat} {goal kind : Int32} {B : Nat → Int32} (hp : zIp z w T E g g Wy R mk K X XM TS TA TB) (hb : b < tb T) (hm : mk b < 2147483646) (hq : tv T q) (hqb : tw T q = b) (hk : ¬ kind = 1 ∧ ¬ kind = 0) (h1 : 1 ≤ len) (h : len ≤ 1480) (kd : zKd b z z') (t2 : zgA z' 113 b 2 = zgA z 113 b 2 + 1) (n : zNm w' T K g (d :: XM) TS TA' TB) (f : zFr 0x8100000000000000000000000000000000040000000000000000000000000000000000000000000000000000000000000000000000000000000000000000000000000000000000000010000000000000000000000000000000000000000000000000000000000000000000000000000000000000000000000000000000000000000000000000000000000000000000000000000000000000000000000000000000000000000000000000 w w') (i4 : ∀ c, zgI w' 12 4 c = if c = b then zgI w 12 4 b + 1 else zgI w 12 4 c) :
    zIp z' w' T E g g Wy (rgNew R b (mk b) (dMk q goal kind (Int32.ofNat (mk b)) len B)) (zupd mk b (mk b + 1)) K X (d :: XM) TS TA' TB ∧ zPd T (rgNew R b (mk b) (dMk q goal kind (Int32.ofNat (mk b)) len B)) (dMk q goal kind (Int32.ofNat (mk b)) len B) ∧ (∀ c n v, R c n = some v → rgNew R b (mk b) (dMk q goal kind (Int32.ofNat (mk b)) len B) c n = some v) := by
  obtain ⟨⟨p1, p2, p3, p4, ⟨p5, p6, p7⟩, p8, p9, p10⟩, hR, hW⟩ := hp
  have mono := rgNew_mono (D := dMk q goal kind (Int32.ofNat (mk b)) len B) (zRg_free hR b)
  have fc := zKd_f kd
  refine ⟨⟨⟨zKd_NC kd p1, zMV_up f (by decide) n p2, p3, zGI_mono (fun G hG => zPd_mono mono hG) p4, ⟨zWyc_fr fc (by decide) p5, zWym_fr f (by decide) p6, p7⟩, zRE_fr fc (by decide) f (by decide) p8, fun c hc => ?_, (kd.1 11 15 0 (by omega)).trans p10⟩, zRg_new hR hm hb (fun c hc => kd.2.1 113 c 2 (by omega) (by omega)) t2, hW⟩, zPd_mk hq hqb (by omega) hk h1 h, mono⟩
  obtain ⟨a2, a3, a4, a6, a7⟩ := p9 c hc
  have A : ∀ k, k ≠ 2 → zgA z' 113 c k = zgA z 113 c k := fun k hk => kd.2.1 113 c k (by omega) (by omega)
  rw [A 3 (by decide), A 4 (by decide), A 6 (by decide), A 7 (by decide), zFr_gI f (by decide) (by decide) (j := 5), zFr_gI f (by decide) (by decide) (j := 6), zFr_gI f (by decide) (by decide) (j := 8), zFr_gI f (by decide) (by decide) (j := 9)]
  refine ⟨?_, a3, a4, a6, a7⟩
  rw [i4]
  by_cases e : c = b
  · subst e; rw [if_pos rfl, t2, a2]
  · rw [if_neg e, kd.2.1 113 c 2 (by omega) (by omega)]; exact a2
/-- both sides hand it to a station -/
theorem zIp_hand {z w : St} {T : Tp} {E : Ev} {g : Sg} {Wy : Wyt} {R : Rg} {mk : Nat → Nat} {K : Int32 → Int32 → Int32 → Prop} {X XM TS TA TB : List Nat} {q s d N : Nat} {D : Dg} (hp : zIp z w T E g g Wy R mk K X XM TS TA TB) (hq : tv T q) (hs : s < 8) (hDc : zPC 11 z 0 D) (hPD : zPd T R D) (hk : ¬ D.1 2 = 1 ∧ ¬ D.1 2 = 5 ∧ ¬ D.1 2 = 6) (hd : d ∈ XM) (hX : XM.length < 98) (hDm : zMD w T K d D) (hN : 1481 < N) :
    ∃ z' w', fX11_hand N 0 q (Int32.ofNat s) 0 z = some (0, z') ∧ fX19_deliver N 0 q (Int32.ofNat s) (Int32.ofNat d) w = some (0, w') ∧ zIp z' w' T E (nHand E (tw T q) g q s D) (nHand E (tw T q) g q s D) Wy R mk K X XM TS TA TB ∧ zKe X z z' ∧ zKm XM w w' ∧ zFr mX11_hand z z' ∧ zFr mX19_deliver w w' := by
  obtain ⟨⟨p1, p2, p3, p4, ⟨p5, p6, p7⟩, p8, p9, p10⟩, hR, hW⟩ := hp
  have hDw := hPD.1
  obtain ⟨z', r1, r2, r3⟩ := zc_hand (N := N) p1 p3 hq hs (Or.inl rfl) hDc hDw hN
  obtain ⟨w', s1, s2, s3⟩ := zm_deliver (N := N) p2 p4.1 hq hs hd (by omega) hDw ⟨hk.2.1, hk.2.2⟩ (p4.2.2.1 q hq) hDm hN
  have fz : zFr mX11_hand z z' := wX11_hand (Nat.and_self _) (zFr_rf _ _) _ _ r1
  have fw : zFr mX19_deliver w w' := wX19_deliver (Nat.and_self _) (zFr_rf _ _) _ _ s1
  have h5 : z5 z z' := z5_hand (z5_rf _) _ _ r1
  refine ⟨z', w', r1, s1, ⟨⟨r2, s2, nHand_c hq hs hDw p3, nHand_I p1.2.2.2.1 (zPd_cl T R) hq hs hDw ⟨hk.2.1, hk.2.2⟩ hPD p4, ⟨zWyc_fr fz (by decide) p5, zWym_fr fw (by decide) p6, p7⟩, zRE_fr fz (by decide) fw (by decide) p8, zUt_keep h5 fw (by decide) p9, (zFr_gI fz (by decide) (by decide) 0).trans p10⟩, zRg_same hR (fun c => h5 c 2 (by decide)), fun p hp G hG => ?_⟩, zKe_h r3, s3, fz, fw⟩
  rcases nHand_mem hG with y | y
  · exact hW p hp G y
  · rw [y.2]; exact fun e => absurd (show D.1 2 = 1 from e) hk.1
/-- both sides put it on a port's net -/
theorem zIp_put {z w : St} {T : Tp} {E : Ev} {g : Sg} {Wy : Wyt} {R : Rg} {mk : Nat → Nat} {K : Int32 → Int32 → Int32 → Prop} {X XM TS TA TB : List Nat} {q d N : Nat} {to : Int32} {D : Dg} (hp : zIp z w T E g g Wy R mk K X XM TS TA TB) (hq : tv T q) (hto : to = -1 ∨ ∃ t, t < 8 ∧ to = Int32.ofNat t) (hDc : zPC 11 z 0 D) (hPD : zPd T R D) (hk : ¬ D.1 2 = 5 ∧ ¬ D.1 2 = 6) (hd : d ∈ XM) (hX : XM.length < 98) (hDm : zMD w T K d D) (hN : 1481 < N) :
    ∃ z' w', fX11_putOn N 0 q to 0 z = some (0, z') ∧ fX19_carry N 0 q to (Int32.ofNat d) w = some (0, w') ∧ zIp z' w' T E (nCarry E (tw T q) g q to D) (nCarry E (tw T q) g q to D) Wy R mk K X XM TS TA TB ∧ zKp X z z' ∧ zKm XM w w' ∧ zFr mX11_putOn z z' ∧ zFr mX19_carry w w' := by
  obtain ⟨⟨p1, p2, p3, p4, ⟨p5, p6, p7⟩, p8, p9, p10⟩, hR, hW⟩ := hp
  have hDw := hPD.1
  obtain ⟨hT, hc, hE, hw, hd', hWc, hA, hH, hno, hX1⟩ := p1
  obtain ⟨mT, -, mE, -, mD, mA, mH⟩ := p2
  obtain ⟨gW', gA', gH', g1⟩ := p3
  obtain ⟨z', r1, r2, r3⟩ := zc_putOn (N := N) (to := to) hT hc hE hw hd' hq (Or.inl (by omega)) hDc hDw hX1 hN
  obtain ⟨w', s1, s2, s3⟩ := zm_carry (N := N) (to := to) mT hc mE hw hq hd (by omega) hDw hk mD hDm hN
  have fz : zFr mX11_putOn z z' := wX11_putOn (Nat.and_self _) (zFr_rf _ _) _ _ r1
  have fw : zFr mX19_carry w w' := wX19_carry (Nat.and_self _) (zFr_rf _ _) _ _ s1
  have h5 : z5 z z' := z5_putOn (z5_rf _) _ _ r1
  have hcW := nCarry_W E (tw T q) g q to D
  refine ⟨z', w', r1, s1, ⟨⟨⟨zTC_fr fz (by decide) hT, hc, zEc_fr fz (by decide) hE, hw, r2, ?_, ?_, ?_, zNo_kp r3 hno, hX1⟩, ⟨zTM_fr fw (by decide) mT, hc, zEm_fr fw (by decide) mE, hw, s2, ?_, ?_⟩, ⟨?_, ?_, ?_, g1⟩, nCarry_I hw hq (zPd_cl T R) hDw hPD hto p4, ⟨zWyc_fr fz (by decide) p5, zWym_fr fw (by decide) p6, p7⟩, zRE_fr fz (by decide) fw (by decide) p8, zUt_keep h5 fw (by decide) p9, (zFr_gI fz (by decide) (by decide) 0).trans p10⟩, zRg_same hR (fun c => h5 c 2 (by decide)), ?_⟩, r3, s3, fz, fw⟩
  · have := zWc_fr fz (by decide) (fun u hu => r3 u (by omega)) hWc
    unfold zWc at this ⊢
    rw [hcW.1]; exact this
  · have := zAc_fr fz (by decide) hA
    unfold zAc at this ⊢
    rw [hcW.2.1]; exact this
  · have := zHc_fr fz (by decide) hH
    unfold zHc at this ⊢
    rw [hcW.2.2]; exact this
  · have := zAm_fr fw (by decide) mA
    unfold zAm at this ⊢
    rw [hcW.2.1]; exact this
  · have := zHm_fr fw (by decide) mH
    unfold zHm at this ⊢
    rw [hcW.2.2]; exact this
  · unfold zWw at gW' ⊢
    rw [hcW.1]; exact gW'
  · unfold zAw at gA' ⊢
    rw [hcW.2.1]; exact gA'
  · unfold zHw at gH' ⊢
    rw [hcW.2.2]; exact gH'
  · rw [hcW.1]; exact hW
/-- the model drops what it made -/
theorem zIp_drop {z w : St} {T : Tp} {E : Ev} {gc gm : Sg} {Wy : Wyt} {R : Rg} {mk : Nat → Nat} {K : Int32 → Int32 → Int32 → Prop} {X XM TS TA TB : List Nat} {d N : Nat} (hp : zIp z w T E gc gm Wy R mk K X (d :: XM) TS TA TB) : ∃ w', fX19_drop N 0 (Int32.ofNat d) w = some (0, w') ∧ zIp z w' T E gc gm Wy R mk K X XM TS TA TB ∧ zKm (d :: XM) w w' ∧ zFr mX19_drop w w' := by
  obtain ⟨⟨p1, p2, p3, p4, ⟨p5, p6, p7⟩, p8, p9, p10⟩, hR, hW⟩ := hp
  obtain ⟨w', u1, u2, u3, u4⟩ := zm_dropN (N := N) p1.2.1 p2.2.2.2.2.1.2.2
  exact ⟨w', u1, ⟨⟨p1, zMV_up u4 (by decide) u2 p2, p3, p4, ⟨p5, zWym_fr u4 (by decide) p6, p7⟩, zRE_fr (zFr_rf 0 z) (by decide) u4 (by decide) p8, zUt_keepM u4 (by decide) p9, p10⟩, hR, hW⟩, u3, u4⟩
