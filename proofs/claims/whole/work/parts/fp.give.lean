/-! pieces that waited too long are given up: all of the world -/
theorem zp_giveUp {z w : St} {T : Tp} {E : Ev} {tl Nm : Nat → Nat} {Wy : Wyt} {u5 : Nat → Prop} {K : Int32 → Int32 → Int32 → Prop} {g : Sg} {R : Rg} {mk : Nat → Nat} {S : Nat → Rs} {Lp : Nat → List Pe} {od : Nat → Nat} {b N : Nat} {x1 : Int32} {K16 : Nat → Int32 → St → Option (Int32 × St)} (h : zW1 z w T E tl Nm Wy u5 K g R mk S Lp od [] []) (hb : b < tb T) (ho : od b < 2147483648) (hE4 : eN E ≤ 400000) (hN : 4 < N) :
    ∃ z' w' t, fX11_givePartialUp N 0 b z = some (0, z') ∧ fX19_tick_59 N K16 N 0 x1 b (0 : Int32) w = (if (zgI w' 12 1 b) = 0 then (fX19_tick_145 N K16 N 0 x1 b (0 : Int32) w') else (zc (fX19_neighbours N b (zgI w' 19 24 0) w') fun _ z4 => zc (fX19_base N 0 b z4) fun _ z8 => zc (fX19_ownAdvert N 0 b z8) fun _ z12 => zc (fX19_routerSpeaks N 0 b z12) fun _ z16 => zc (fX19_ways N 0 b z16) fun _ z20 => fX19_tick_168 N K16 0 x1 z20)) ∧ zW1 z' w' T E tl Nm Wy u5 K (sS g t) R mk S (zupd Lp b ((Lp b).filter (peY E))) od [] [] ∧ (t = gS g ∨ t = eN E) ∧ zFr mX11_givePartialUp z z' ∧ zFr 0x100000000000000000000080000000000000000000000000000000000000000000000000000000000000000000000000000000000000000000000000000000000000000000800000000000000000000000000000000000000000000000000000000000000000000000000000000000000000000000000000000000000000000000000000000000000000000000000000000000000000000000000000000000000000000000000 w w' ∧ zJq T z z' w w' ∧ zUd z z' := by
  obtain ⟨hp, hB, hA, hP, hMs, hQ, hrP, h5⟩ := id h
  have hc := hp.1.1.2.1
  have b16 : b < 16 := Nat.lt_of_lt_of_le hb hc.1
  obtain ⟨S1, S2⟩ := zIp_S hp
  obtain ⟨c1, c2, c3, c4⟩ := hP b hb
  have pl : (Lp b).length ≤ 4 := c2.1.1
  have hEz : zgI z 11 4 0 = Int32.ofNat (eN E) := hp.1.1.2.2.1.1
  obtain ⟨-, -, hEw⟩ := zm_fLen hp
  obtain ⟨z', a1, a2, a3, a4, a5, a6, a7, a8⟩ := zc_giveUp (N := N) hE4 ho hN 4 0 N z (Lp b) rfl (by omega) hEz c1 (fun e he => (c3 e he).1) (fun e _ y => absurd y (by omega))
  obtain ⟨w', m1, m2, m3, m4, m5, m6, m7, m8⟩ := zm_giveUp (x1 := x1) (K16 := K16) (N := N) hE4 hN (Lp b) [] N w (by omega) hEw (by rw [List.nil_append]; exact c2) (fun e he => (c3 e he).1)
  have a1' : fX11_givePartialUp N 0 b z = some (0, z') := a1
  have m1' : fX19_tick_59 N K16 N 0 x1 b (0 : Int32) w = _ := m1
  obtain ⟨t, ht⟩ : ∃ t, t = if (Lp b).all (peY E) = true then gS g else eN E := ⟨_, rfl⟩
  have tt : t = gS g ∨ t = eN E := by
    rw [ht]; split
    · exact Or.inl rfl
    · exact Or.inr rfl
  have s1 : zgI z' 11 5 0 = Int32.ofNat t := by
    rw [a3, ht]
    split
    · exact S1
    · rfl
  have s2 : zgI w' 19 27 0 = Int32.ofNat t := by
    rw [m3, ht]
    split
    · exact S2
    · rfl
  have f1 : zFr mX11_givePartialUp z z' := wX11_givePartialUp (Nat.and_self _) (zFr_rf _ _) _ _ a1'
  have f2 : zFr 0x100000000000000000000080000000000000000000000000000000000000000000000000000000000000000000000000000000000000000000000000000000000000000000800000000000000000000000000000000000000000000000000000000000000000000000000000000000000000000000000000000000000000000000000000000000000000000000000000000000000000000000000000000000000000000000000 w w' := by
    refine ⟨fun k j o hk hm => ⟨m4 k j o ?_ ?_, m8 k j o⟩, fun k o i hm => ⟨m5 k o i, m6 k o i, m7 k o i ?_⟩⟩
    · rintro ⟨rfl, rfl, -⟩; exact absurd hm (by decide)
    · rintro ⟨rfl, rfl, -⟩; exact absurd hm (by decide)
    · rintro ⟨rfl, -⟩; exact absurd hm (by decide)
  have k7 : zK7 z z' := fun v => ⟨fun j _ => a4 7 j v (by omega), fun i => a5 125 v i (by omega)⟩
  have hA2 : ∀ c k, zgA z' 113 c k = zgA z 113 c k := fun c k => a5 113 c k (by omega)
  have TA1 : zTA w' T = zTA w T := zTA_cg (fun c k _ _ => m5 150 c k)
  have TB1 : zTB w' T = zTB w T := zTB_cg (fun j v hj => m4 14 j v (by omega) (by omega))
  obtain ⟨⟨p1, p2, p3, p4, ⟨p5, p6, p7⟩, p8, p9, p10⟩, hR, hW⟩ := id hp
  have I' : zIp z' w' T E (sS g t) (sS g t) Wy R mk K [] [] [] (zTA w T) (zTB w T) := ⟨⟨zNC_cgS f1 (by decide) (fun u _ _ _ => ⟨fun j => a4 7 j u (by omega), fun i => a5 125 u i (by omega)⟩) (fun c => hA2 c 5) s1 p1, zMV_st f2 (by decide) m6 s2 p2, p3, p4, ⟨zWyc_fr f1 (by decide) p5, zWym_fr f2 (by decide) p6, p7⟩, zRE_fr f1 (by decide) f2 (by decide) p8, zUt_keep (fun c k _ => hA2 c k) f2 (by decide) p9, (zFr_gI f1 (by decide) (by decide) 0).trans p10⟩, zRg_same hR (fun c => hA2 c 2), hW⟩
  refine ⟨z', w', t, a1', m1', ⟨by rw [TA1, TB1]; exact I', zB44_a (zAgr_fr f1 (by decide)) (zAgr_fr f2 (by decide)) hB, zWa_a hc (zAgr_fr f1 (by decide)) (zAgr_fr f2 (by decide)) hA, fun c hcb => ?_, zMs_a (zAgr_fr f1 (by decide)) (zAgr_fr f2 (by decide)) hMs, zQI_cg rfl rfl rfl hQ, fun c hcb => ?_, zU5_a (zAgr_fr f2 (by decide)) h5⟩, tt, f1, f2, ⟨zS4_fr (zS4_rf hp.1.1.1) f1 (by decide) (by decide), zAgr_fr f1 (by decide), zAgr_fr f2 (by decide)⟩, zUd_fr (zUd_rf z) f1 (by decide)⟩
  · by_cases e : c = b
    · subst e
      rw [zupd_s]
      refine ⟨a2, by rw [List.nil_append] at m2; exact m2, fun e he => c3 e (List.mem_filter.mp he).1, List.Pairwise.sublist List.filter_sublist c4⟩
    · rw [zupd_n e]
      exact zPp_cg (fun _ _ _ y => y) (zPcS_cg (a4 1 9 c (by omega)) (fun i => a5 118 c i (by omega)) (fun i => a5 117 c i (by omega)) (fun o i _ _ => a6 116 o i) (fun u _ _ => ⟨fun j _ => a4 7 j u (by omega), fun i => a5 125 u i (by omega)⟩)) (zPmS_cg (m4 12 11 c (by omega) (by omega)) (fun k => m7 148 c k (by omega)) (fun o j _ _ _ => m4 17 j o (by omega) (by omega)) (fun o i _ _ => m5 166 o i)) (hP c hcb)
  · by_cases e : c = b
    · subst e
      rw [zupd_s]
      intro x hx
      exact hrP c hcb x (List.mem_filter.mp hx).1
    · rw [zupd_n e]; exact hrP c hcb
