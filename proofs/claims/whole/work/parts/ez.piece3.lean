/-! pieces are put together: all of the world's network -/
def mNCs : Nat := mTC ||| (mEc ||| (mTr ||| (0x20000000000000000000000000000000000000000000000000000000000000000000000000000000000 ||| (0x6000000000000000000000000000000000000000000000000000000000000000000000000000000000000000000000000000000000000000000000000000000000000000000000000000000180000000000000000000000000000000000000000000000000000000000000040000000000000000000000000000000000000000000000000000000000000000000000000000000000000000000000000000000000000000000 ||| (0x4000000000000000000000000000000000000000000000000000000000000000000000000000000000000000000000000000000000000000000000000000000000000000000000000000000000000000000000000000000000000000000000000000100000000000000000000000000000000000000000000000000000000000000000000000000000000000000000000000000000000000000000000000000000000000 ||| (0x1800000000000000000000000000000000000000000000000000000000000000000000000000000000000000000000000000000000000000000000000000000000000000000000000000000000000000000000000000000000000000000000000000020000000000000000000000000000000000000000000000000000000000000000000000000000000000000000000000000000000000000000000000000000000000 ||| 0x400000000000000000000000000000000000000000000000000000000000000000000000000000000000000000000000000000000000000000000000000000000000000000000000000000000000000000000000000000000000000000000000000000000000000000000000000000000000000000000000000000000000000000000000000000000000000000000000000000000000000000000000000000000000000))))))
/-- the class stirs, and what it changes else is not the network's -/
theorem zNC_cgS {M t : Nat} {z z' : St} {T : Tp} {E : Ev} {g : Sg} {X : List Nat} (f : zFr M z z') (hm : mNCs &&& M = 0) (hp : ∀ u, u ≠ 0 → ¬ (515 ≤ u ∧ u < 579) → u ∉ X → (∀ j, zgI z' 7 j u = zgI z 7 j u) ∧ ∀ i, zgA z' 125 u i = zgA z 125 u i) (h5 : ∀ b, zgA z' 113 b 5 = zgA z 113 b 5) (hs : zgI z' 11 5 0 = Int32.ofNat t) (h : zNC z T E g X) : zNC z' T E (sS g t) X := by
  obtain ⟨h1, h2, h3, h4, ⟨t1, t2, t3⟩, h6, h7, h8, h9, hX⟩ := h
  obtain ⟨k1, r1⟩ := zmsk2 hm
  obtain ⟨k2, r2⟩ := zmsk2 r1
  obtain ⟨k3, r3⟩ := zmsk2 r2
  obtain ⟨k4, r4⟩ := zmsk2 r3
  obtain ⟨k5, r5⟩ := zmsk2 r4
  obtain ⟨k6, r6⟩ := zmsk2 r5
  obtain ⟨k7, k8⟩ := zmsk2 r6
  have x515 : ∀ x, x ∈ X → x < 515 := fun x hx => (zX1 t3 x hx).2
  refine ⟨zTC_fr f k1 h1, h2, zEc_fr f k2 h3, h4, ⟨zTr_fr (g := g) f k3 t1, ⟨fun n hn => (zFr_gI f (by decide) (ztf k4 (by decide)) n).trans (t2.1 n hn), fun b hb => (h5 b).trans (t2.2.1 b hb), hs⟩, ?_⟩, ?_, zAc_fr (g := g) f k7 h7, zHc_fr (g := g) f k8 h8, ?_, hX⟩
  · obtain ⟨Fs, S, hfs, hnd, hin, hlen, hfl, hsp, hcal, hcon⟩ := t3
    have e14 : (fun x => zgR z' 7 14 x) = (fun x => zgR z 7 14 x) := funext (fun x => zFr_gR f (by decide) (ztf k5 (by decide)) x)
    have e141 : (fun c => zgQ z' 141 0 c) = (fun c => zgQ z 141 0 c) := funext (fun x => zFr_gQ f (ztf k5 (by decide)) 0 x)
    have e142 : (fun c => zgQ z' 142 0 c) = (fun c => zgQ z 142 0 c) := funext (fun x => zFr_gQ f (ztf k5 (by decide)) 0 x)
    refine ⟨Fs, S, hfs, hnd, hin, hlen, ?_, ?_, ?_, fun q hq => ?_⟩
    · rw [zFr_gI f (by decide) (ztf k5 (by decide))]; exact hfl
    · rw [e14, zFr_gR f (by decide) (ztf k5 (by decide))]; exact hsp
    · rw [e14, e141, e142]; exact hcal
    · have hq' : q.1 ∈ Fs.map (fun f => f.1) := List.mem_map.mpr ⟨q, hq, rfl⟩
      have := hin q.1 (List.mem_append.mpr (Or.inl hq'))
      have hqX : q.1 ∉ X := fun m => (List.nodup_append.mp hnd).2.2 q.1 hq' q.1 (by simp [m]) rfl
      have p := hp q.1 (by omega) (by omega) hqX
      exact zPC_cg (fun j _ => p.1 j) p.2 (hcon q hq)
  · intro q hq
    exact ⟨(h6 q hq).1, zWq_cg (zFr_gI f (by decide) (ztf k6 (by decide)) q) (fun i => zFr_gQ f (ztf k6 (by decide)) q i) (fun u hu _ => hp u (by omega) (by omega) (fun m => by have := x515 u m; omega)) (h6 q hq).2⟩
  · have p := hp 1 (by omega) (by omega) (fun m => by have := (zX1 t3 1 m).1; omega)
    exact ⟨(p.1 3).trans h9.1, fun i => (p.2 i).trans (h9.2 i)⟩
def mPcM : Nat := 0x4000100000000000000000000080000000000000000000000000000000000003f00000000000000000000000000000000000000000000000000000000000000000000000000000900000000000000000000000000000000000000000000000000000000000000000000000000000000000000000000000000000000000000000000000000000000000000000000000000000000000000000000000000000000000000000000000000
theorem zFp_m {b : Nat} {z z' w w' : St} (h : zFp b z z' w w') : zFr mPcM w w' := by
  obtain ⟨-, h1, h2, h3, h4, h5⟩ := h
  refine ⟨fun k j o hk hm => ⟨h1 k j o ?_ ?_ ?_, h5 k j o⟩, fun k o i hm => ⟨h2 k o i ?_, h3 k o i, h4 k o i ?_⟩⟩
  · rintro ⟨rfl, hj, -⟩
    rcases hj with rfl | rfl <;> exact absurd hm (by decide)
  · rintro ⟨rfl, hj, -, -⟩
    obtain rfl | rfl | rfl | rfl | rfl | rfl : j = 0 ∨ j = 1 ∨ j = 2 ∨ j = 3 ∨ j = 4 ∨ j = 5 := by omega
    all_goals exact absurd hm (by decide)
  · rintro ⟨rfl, rfl⟩; exact absurd hm (by decide)
  · rintro ⟨rfl, -⟩; exact absurd hm (by decide)
  · rintro ⟨rfl, -⟩; exact absurd hm (by decide)
theorem zIp_pieces {z w : St} {T : Tp} {E : Ev} {g : Sg} {Wy : Wyt} {R : Rg} {mk od : Nat → Nat} {Lp : Nat → List Pe} {K : Int32 → Int32 → Int32 → Prop} {X XM TS TA TB : List Nat} {b x d N : Nat} {D D' : Dg} (hp : zIp z w T E g g Wy R mk K X XM TS TA TB) (hP : zWp z w T E R Lp od) (hb : b < tb T) (ho : od b < 2147483647) (hx : x ∈ X) (hxc : zPC 11 z x D) (hPd : zPd T R D) (hDm : zMD w T K d D') (hD' : ∀ j, ¬ j = 10 → D'.1 j = D.1 j) (hpart : dl D < dw D) (hN : 192 < N) :
    ∃ z' w' L' ord' t, ((∃ u D1, 515 + 4 * b ≤ u ∧ u < 519 + 4 * b ∧ fX11_putTogether N 0 b x z = some (some u, z') ∧ fX19_get N 0 b (Int32.ofNat d) w = (zc (fX19_handle N 0 b (Int32.ofNat d) w') fun _ z13 => some (0, z13)) ∧ zPd T R D1 ∧ dSb D1 D = true ∧ (∀ j, j < 11 → j ≠ 8 → zgI z' 7 j u = (dFull D1).1 j) ∧ (∀ i, i < dw D → zgA z' 125 u i = D.2 i) ∧ 64 ≤ dw D ∧ (D1 = D ∨ ∃ e, e ∈ Lp b ∧ peD e = dFull D1)) ∨
      (fX11_putTogether N 0 b x z = some (none, z') ∧ fX19_get N 0 b (Int32.ofNat d) w = some (0, w'))) ∧
      zIp z' w' T E (sS g t) (sS g t) Wy R mk K X XM TS TA TB ∧ zWp z' w' T E R (zupd Lp b L') (zupd od b ord') ∧ (ord' = od b ∨ ord' = od b + 1) ∧ (t = gS g ∨ t = eN E) ∧ zFr mX11_putTogether z z' ∧ zFr mPcM w w' ∧ zKm XM w w' ∧ (∀ u, u < 515 → (∀ j, zgI z' 7 j u = zgI z 7 j u) ∧ ∀ i, zgA z' 125 u i = zgA z 125 u i) ∧ ∀ e, e ∈ L' → (∃ e0, e0 ∈ Lp b ∧ peD e = peD e0) ∨ peD e = dFull D := by
  obtain ⟨⟨p1, p2, p3, p4, ⟨p5, p6, p7⟩, p8, p9, p10⟩, hR, hW⟩ := id hp
  obtain ⟨S1, S2⟩ := zIp_S hp
  have hc := p1.2.1
  have x515 : x < 515 := (zX1 p1.2.2.2.2.1.2.2 x hx).2
  have b16 : b < 16 := Nat.lt_of_lt_of_le hb hc.1
  obtain ⟨z', w', L', ord', t, cs, a2, a3, a4, a5, a6, a7, a8⟩ := zp_pieces (N := N) p1.1 hc hb p1.2.2.1.1 p2.2.2.1.1 (hP b hb) ho x515 hxc hPd hDm hD' hpart S1 S2 hN
  have f1 : zFr mX11_putTogether z z' := by
    rcases cs with ⟨u, D1, -, -, q, -⟩ | ⟨q, -⟩
    · exact wX11_putTogether (Nat.and_self _) (zFr_rf _ _) _ _ q
    · exact wX11_putTogether (Nat.and_self _) (zFr_rf _ _) _ _ q
  have f2 := zFp_m a7
  obtain ⟨⟨g1, g2, g3⟩, h1, h2, h3, h4, h5⟩ := id a7
  have K5 : ∀ u, ¬ (515 + 4 * b ≤ u ∧ u < 519 + 4 * b) → (∀ j, zgI z' 7 j u = zgI z 7 j u) ∧ ∀ i, zgA z' 125 u i = zgA z 125 u i := fun u hu => ⟨fun j => g1 7 j u (by omega) (by omega) (by omega), fun i => g2 125 u i (by omega) (by omega) (by omega)⟩
  have tal : zgA z' 113 b 6 = zgA z 113 b 6 ∧ zgI w' 12 8 b = zgI w 12 8 b ∨ zgA z' 113 b 6 = zgA z 113 b 6 + 1 ∧ zgI w' 12 8 b = zgI w 12 8 b + 1 := by
    rcases cs with ⟨u, D1, -, -, -, -, -, -, -, -, -, -, q1, q2⟩ | ⟨-, -, q1, q2⟩
    · exact Or.inr ⟨q2, q1⟩
    · exact Or.inl ⟨q2, q1⟩
  have hk2 : ∀ c k, ¬ (c = b ∧ k = 6) → zgA z' 113 c k = zgA z 113 c k := fun c k q => g2 113 c k (by omega) (by omega) (by omega)
  have kb : zKm XM w w' := ⟨fun d k _ _ => h2 172 0 _ (by omega), fun k i => h2 174 k i (by omega), fun k i => h2 178 k i (by omega), h3⟩
  refine ⟨z', w', L', ord', t, ?_, ⟨⟨zNC_cgS f1 (by decide) (fun u u1 u2 u3 => K5 u (by omega)) (fun c => hk2 c 5 (by omega)) a5 p1, zMV_st f2 (by decide) h3 a6 p2, p3, p4, ⟨zWyc_fr f1 (by decide) p5, zWym_fr f2 (by decide) p6, p7⟩, zRE_fr f1 (by decide) f2 (by decide) p8, fun c hcb => ?_, (zFr_gI f1 (by decide) (by decide) 0).trans p10⟩, zRg_same hR (fun c => hk2 c 2 (by omega)), hW⟩, fun c hcb => ?_, a3, a4, f1, f2, kb, fun u hu => K5 u (by omega), a8⟩
  · rcases cs with ⟨u, D1, q1, q2, q3, q4, q5, q6, q7, q8, q9, q10, -⟩ | ⟨q1, q2, -⟩
    · exact Or.inl ⟨u, D1, q1, q2, q3, q4, q5, q6, q7, q8, q9, q10⟩
    · exact Or.inr ⟨q1, q2⟩
  · obtain ⟨b2, b3, b4, b6, b7⟩ := p9 c hcb
    rw [hk2 c 2 (by omega), hk2 c 3 (by omega), hk2 c 4 (by omega), hk2 c 7 (by omega), h1 12 4 c (by omega) (by omega) (by omega), h1 12 5 c (by omega) (by omega) (by omega), h1 12 6 c (by omega) (by omega) (by omega), h1 12 9 c (by omega) (by omega) (by omega)]
    refine ⟨b2, b3, b4, ?_, b7⟩
    by_cases y : c = b
    · subst y
      rcases tal with ⟨t1, t2⟩ | ⟨t1, t2⟩
      · rw [t1, t2]; exact b6
      · rw [t1, t2, b6]
    · rw [hk2 c 6 (by omega), h1 12 8 c (by omega) (by omega) (by omega)]; exact b6
  · by_cases y : c = b
    · subst y
      rw [zupd_s, zupd_s]; exact a2
    · rw [zupd_n y, zupd_n y]
      have c16 : c < 16 := Nat.lt_of_lt_of_le hcb hc.1
      exact zPp_cg (fun _ _ _ q => q) (zPcS_cg (g1 1 9 c (by omega) (by omega) (by omega)) (fun i => g2 118 c i (by omega) (by omega) (by omega)) (fun i => g2 117 c i (by omega) (by omega) (by omega)) (fun o i _ _ => g3 116 o i (by omega)) (fun u u1 u2 => ⟨fun j _ => (K5 u (by omega)).1 j, (K5 u (by omega)).2⟩)) (zPmS_cg (h1 12 11 c (by omega) (by omega) (by omega)) (fun k => h4 148 c k (by omega)) (fun o j _ _ _ => h1 17 j o (by omega) (by omega) (by omega)) (fun o i _ _ => h2 166 o i (by omega))) (hP c hcb)
