/-! a tick passes: the clocks of both sides -/
def eTk (E : Ev) : Ev := (eN E + 1, E.2)
theorem zIp_time {z w : St} {T : Tp} {E : Ev} {g : Sg} {Wy : Wyt} {R : Rg} {mk : Nat → Nat} {K : Int32 → Int32 → Int32 → Prop} {TS TA TB : List Nat} (hp : zIp z w T E g g Wy R mk K [] [] TS TA TB) (hlate : ∀ f, f ∈ gF g → f.1 ≠ eN E) (hE : eN E < 400000) : zIp (zsI z 11 4 0 (zgI z 11 4 0 + 1)) (zsI w 19 24 0 (zgI w 19 24 0 + 1)) T (eTk E) g g Wy R mk K [] [] TS TA TB := by
  obtain ⟨⟨p1, p2, p3, p4, ⟨p5, p6, p7⟩, p8, p9, p10⟩, hR, hW⟩ := hp
  obtain ⟨hTC, hc, hEc, hEw, hNd, hWc, hAc, hHc, hNo, hXl⟩ := p1
  obtain ⟨m1, m2, m3, m4, ⟨m5, m6, m7⟩, m8, m9⟩ := p2
  obtain ⟨z1, hz1⟩ : ∃ u, u = zsI z 11 4 0 (zgI z 11 4 0 + 1) := ⟨_, rfl⟩
  obtain ⟨w1, hw1⟩ : ∃ u, u = zsI w 19 24 0 (zgI w 19 24 0 + 1) := ⟨_, rfl⟩
  rw [← hz1, ← hw1]
  have f1 : zFr 0x1000000000000000000000000000000000000000000000000000000000000000000000000000000000000000000000000000000000000000000000000000000000000000000000000000000000000000000000000000000000 z z1 := by rw [hz1]; exact zFr_I (zFr_rf _ _) (by decide)
  have f2 : zFr 0x10000000000000000000000000000000000000000000000000000000000000000000000000000000000000000000000000000000000000000000000000000000000000000000000000000000000000000000000000000000000000000000000000000000000000000000000000000000000000000000000000000000000000000000000000000000000000000000000000000000000000000000000 w w1 := by rw [hw1]; exact zFr_I (zFr_rf _ _) (by decide)
  have I1 : ∀ k j o, ¬ (k = 11 ∧ j = 4) → zgI z1 k j o = zgI z k j o := fun k j o n => by
    rw [hz1, zgI_sI, if_neg (fun y => n ⟨y.1, y.2.1⟩)]
  have A1 : ∀ k o i, zgA z1 k o i = zgA z k o i := fun k o i => by rw [hz1]; rfl
  have L2 : ∀ k o i, zgL w1 k o i = zgL w k o i := fun k o i => by rw [hw1]; rfl
  have c4 : zgI z1 11 4 0 = Int32.ofNat (eN (eTk E)) := by
    rw [hz1, zgI_sI, if_pos ⟨rfl, rfl, rfl⟩, hEc.1, zo_i1]; rfl
  have m24 : zgI w1 19 24 0 = Int32.ofNat (eN (eTk E)) := by
    rw [hw1, zgI_sI, if_pos ⟨rfl, rfl, rfl⟩, m3.1, zo_i1]; rfl
  have hEc' : zEc z1 T (eTk E) := ⟨c4, fun n hn => by
    obtain ⟨a, b, c⟩ := hEc.2 n hn
    exact ⟨(I1 5 1 n (by omega)).trans a, (I1 5 2 n (by omega)).trans b, (I1 5 3 n (by omega)).trans c⟩⟩
  have J1 : ∀ k j o, ¬ (k = 19 ∧ j = 24) → zgI w1 k j o = zgI w k j o := fun k j o n => by
    rw [hw1, zgI_sI, if_neg (fun y => n ⟨y.1, y.2.1⟩)]
  have hEm' : zEm w1 T (eTk E) := ⟨m24, fun n hn => by
    obtain ⟨a, b, c⟩ := m3.2 n hn
    exact ⟨(J1 16 1 n (by omega)).trans a, (J1 16 2 n (by omega)).trans b, (J1 16 3 n (by omega)).trans c⟩⟩
  have hEw' : zEw T (eTk E) := ⟨show eN E + 1 ≤ 400000 by omega, hEw.2⟩
  have aw : zAw T E g → zAw T (eTk E) g := fun h q hq => ⟨(h q hq).1, fun a ha => by
    obtain ⟨a1, a2, a3⟩ := (h q hq).2 a ha
    exact ⟨a1, a2, show a.2 ≤ eN E + 1 by omega⟩⟩
  have hw : zHw T E g → zHw T (eTk E) g := fun h q s hq hs => by
    have := h q s hq hs
    show gH g q s ≤ eN E + 1
    omega
  obtain ⟨g1, g2, g3, g4⟩ := p3
  obtain ⟨⟨w1', w2', w3', w4', w5'⟩, k2, k3, k4, k5⟩ := p4
  refine ⟨⟨⟨zTC_fr f1 (by decide +kernel) hTC, hc, hEc', hEw', ⟨zTr_fr (g := g) f1 (by decide) hNd.1, zCt_fr (g := g) f1 (by decide) hNd.2.1, zQq_fr f1 (by decide) hNd.2.2⟩, zWc_fr (g := g) f1 (by decide) (fun u _ => ⟨fun j => I1 7 j u (by omega), fun i => A1 125 u i⟩) hWc, zAc_fr (g := g) f1 (by decide) hAc, zHc_fr (g := g) f1 (by decide) hHc, zNo_kp (X := []) (fun u _ => ⟨fun j => I1 7 j u (by omega), fun i => A1 125 u i⟩) hNo, hXl⟩, ⟨zTM_fr f2 (by decide) m1, m2, hEm', hEw', ⟨zTm_fr f2 (by decide) m5, zCm_fr f2 (by decide) m6, zNm_fr f2 (by decide) m2 L2 m7⟩, zAm_fr f2 (by decide) m8, zHm_fr f2 (by decide) m9⟩, ⟨g1, aw g2, hw g3, show 1 ≤ eN E + 1 by omega⟩, ⟨⟨w1', aw w2', hw w3', w4', show 1 ≤ eN E + 1 by omega⟩, k2, k3, fun f hf => ?_, k5⟩, ⟨zWyc_fr f1 (by decide) p5, zWym_fr f2 (by decide) p6, p7⟩, zRE_fr f1 (by decide) f2 (by decide) p8, zUt_keep (z5_fr f1 (by decide)) f2 (by decide) p9, (I1 11 15 0 (by omega)).trans p10⟩, zRg_same hR (fun c => A1 113 c 2), hW⟩
  obtain ⟨⟨a1, a2, a3, a4⟩, a5⟩ := k4 f hf
  have := hlate f hf
  exact ⟨⟨a1, show f.1 ≤ eN E + 1 + 200 by omega, show eN E + 1 ≤ f.1 by omega, a4⟩, a5⟩
theorem zRx_time {z z' w w' : St} {T : Tp} {E : Ev} {tl Nm : Nat → Nat} {V : Wyt} {b : Nat} {s : Rs} (hc : zAgr mRC z z') (hm : zAgr mRM w w') (hro : ro s ≠ 0 → eN E < rm s + 2000) (h : zRx z w T E tl Nm V b s) (hb : b ≠ 99) (hbT : b < tb T) (hr : tr T b = true) : zRx z' w' T (eTk E) tl Nm V b s := by
  obtain ⟨⟨r1, r2, ⟨r3, r4, r5, r6, r7, r8, r9⟩, r10, r11⟩, ⟨o1, o2, o3, o4⟩, ⟨b1, b2⟩, t1, v1, ⟨fc, E', u1, u2, u3⟩, h01⟩ := h
  have oc := zOtC_a hc b hb
  have om := zOtM_a (T := T) hm b hb hbT hr
  refine ⟨⟨oc.1 s r1, om.1 s r2, ⟨r3, fun n hn => ?_, r5, r6, show rm s ≤ eN E + 1 by omega, r8, r9⟩, r10, by rw [om.2.2.1]; exact r11⟩, ⟨o1, fun y => ?_, o3, o4⟩, ⟨fun r a y => ?_, b2⟩, t1, v1, ⟨fun y => ?_, E', fun j hj => (om.2.2.2 j hj).trans (u1 j hj), fun y => u2 (om.2.2.1.symm.trans y), fun y => u3 (om.2.1.symm.trans y)⟩, by rw [om.2.1]; exact h01⟩
  · obtain ⟨a1, a2, a3, a4, a5, a6, a7, a8⟩ := r4 n hn
    exact ⟨a1, a2, a3, a4, a5, a6, show n.2.1 ≤ eN E + 1 by omega, a8⟩
  · have := hro y
    show eN E + 1 ≤ rm s + 2000
    omega
  · obtain ⟨a1, a2, a3⟩ := b1 r a y
    exact ⟨show a.2.1 ≤ eN E + 1 by omega, a2, a3⟩
  · have y' : zgI z 9 11 b = zgI z 11 6 0 := oc.2.2.1.symm.trans (y.trans oc.2.2.2.2)
    obtain ⟨f1, f2⟩ := fc y'
    refine ⟨fun q => ?_, fun q => ?_⟩
    · rw [rDr_cg (E := E) (E' := eTk E) (fun _ _ _ => rfl)]
      exact f1 (oc.2.1.symm.trans q)
    · intro n hn
      rw [cWay_cg (E := E) (E' := eTk E) (fun _ _ _ => rfl)]
      exact f2 (oc.2.2.2.1.symm.trans q) n hn
theorem zW1_time {z w : St} {T : Tp} {E : Ev} {tl Nm : Nat → Nat} {Wy : Wyt} {u5 u5' : Nat → Prop} {K : Int32 → Int32 → Int32 → Prop} {g : Sg} {R : Rg} {mk : Nat → Nat} {S : Nat → Rs} {Lp : Nat → List Pe} {od : Nat → Nat} (h : zW1 z w T E tl Nm Wy u5 K g R mk S Lp od [] []) (hlate : ∀ f, f ∈ gF g → f.1 ≠ eN E) (hE : eN E < 400000) (hro : ∀ b, b < tb T → tr T b = true → ro (S b) ≠ 0 → eN E < rm (S b) + 2000) (h5' : zU5 w T u5') (hfr : ∀ f p, f ∈ gF g → tv T p → f.2.1 12 = Int32.ofNat (p / 8) → f.2.1 13 = Int32.ofNat (p % 8) → u5' (p / 8)) : zW1 (zsI z 11 4 0 (zgI z 11 4 0 + 1)) (zsI w 19 24 0 (zgI w 19 24 0 + 1)) T (eTk E) tl Nm Wy u5' K g R mk S Lp od [] [] := by
  obtain ⟨hp, hB, hA, hP, hMs, hQ, hrP, h5⟩ := h
  have hc := hp.1.1.2.1
  have hI := zIp_time hp hlate hE
  have f1 : zFr 0x1000000000000000000000000000000000000000000000000000000000000000000000000000000000000000000000000000000000000000000000000000000000000000000000000000000000000000000000000000000000 z (zsI z 11 4 0 (zgI z 11 4 0 + 1)) := zFr_I (zFr_rf _ _) (by decide)
  have f2 : zFr 0x10000000000000000000000000000000000000000000000000000000000000000000000000000000000000000000000000000000000000000000000000000000000000000000000000000000000000000000000000000000000000000000000000000000000000000000000000000000000000000000000000000000000000000000000000000000000000000000000000000000000000000000000 w (zsI w 19 24 0 (zgI w 19 24 0 + 1)) := zFr_I (zFr_rf _ _) (by decide)
  have TA1 : zTA (zsI w 19 24 0 (zgI w 19 24 0 + 1)) T = zTA w T := zTA_cg (fun c k _ _ => rfl)
  have TB1 : zTB (zsI w 19 24 0 (zgI w 19 24 0 + 1)) T = zTB w T := zTB_cg (fun j v hj => by rw [zgI_sI, if_neg (by omega)])
  have k7 : zKs z (zsI z 11 4 0 (zgI z 11 4 0 + 1)) := fun v _ _ => ⟨fun j _ => by rw [zgI_sI, if_neg (by omega)], fun _ => rfl⟩
  refine ⟨by rw [TA1, TB1]; exact hI, zB44_a (zAgr_fr f1 (by decide)) (zAgr_fr f2 (by decide)) hB, ⟨fun p hp => ⟨(zFr_gI f1 (by decide) (by decide) p).trans (hA.1 p hp).1, (hA.1 p hp).2⟩, fun p hp => ⟨(zFr_gI f2 (by decide) (by decide) p).trans (hA.2.1 p hp).1, (hA.2.1 p hp).2⟩, fun b hb hr => ?_⟩, fun b hb => ?_, zMs_a (zAgr_fr f1 (by decide)) (zAgr_fr f2 (by decide)) hMs, ⟨fun f hf => ?_, hQ.2.1, hQ.2.2⟩, hrP, zU5_a (zAgr_fr f2 (by decide)) h5'⟩
  · have b16 : b < 16 := Nat.lt_of_lt_of_le hb hc.1
    exact zRx_time (zAgr_fr f1 (by decide)) (zAgr_fr f2 (by decide)) (hro b hb hr) (hA.2.2 b hb hr) (by omega) hb hr
  · have b16 : b < 16 := Nat.lt_of_lt_of_le hb hc.1
    obtain ⟨a1, a2, a3, a4⟩ := zPp_a b16 (zAgr_fr f1 (by decide)) k7 (zAgr_fr f2 (by decide)) (fun _ _ _ y => y) (hP b hb)
    exact ⟨a1, a2, fun e he => by
      obtain ⟨b1, b2⟩ := a3 e he
      exact ⟨show pet e ≤ eN E + 1 by omega, b2⟩, a4⟩
  · obtain ⟨p, p1, p2, p3, p4, p5, p6⟩ := hQ.1 f hf
    exact ⟨p, p1, p2, p3, p4, fun _ => hfr f p hf p1 p2 p3, p6⟩
