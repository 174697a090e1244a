/-! a frame that is due comes into both hands; it is given back -/
theorem zIp_pop {z w : St} {T : Tp} {E : Ev} {g : Sg} {Wy : Wyt} {R : Rg} {mk : Nat → Nat} {K : Int32 → Int32 → Int32 → Prop} {TA TB : List Nat} {x c N : Nat} (hp : zIp z w T E g g Wy R mk K [] [] [] TA TB) (hc256 : c < 256) (hx : zgQ z 141 0 c = some x) (hN : 3600 < N) :
    ∃ A f B z1 w1 kind addr dv XM, gF g = A ++ f :: B ∧ f.1 % 256 = c ∧ (∀ a, a ∈ A → a.1 % 256 ≠ c) ∧
      (∀ K11 x2, (zl (zgR z 7 14 x) fun y6 => zk (Int32.ofNat c) 256 <| zl (zsQ z 141 0 (Int32.ofNat c).toNatClampNeg y6) fun z8 => zl (zgR z8 7 14 x) fun y9 => zo y9 (zk (Int32.ofNat c) 256 <| zl (zsQ z8 142 0 (Int32.ofNat c).toNatClampNeg none) fun z13 => fX11_letArrive_56 N K11 0 (Int32.ofNat c) x2 x z13) fun _ => fX11_letArrive_56 N K11 0 (Int32.ofNat c) x2 x z8) = (zk (zgI z1 7 12 x) 24 <| zl (zgQ z1 139 0 (zgI z1 7 12 x).toNatClampNeg) fun y3 => fX11_letArrive_80 N K11 N 0 (Int32.ofNat c) x2 x y3 (0 : Int32) z1)) ∧
      fX19_takeFrame N 0 (Int32.ofNat A.length) w = some (0, w1) ∧ (zgA w 188 0 (7 * A.length) = f.2.1 12 ∧ zgA w 188 0 (7 * A.length + 1) = f.2.1 13 ∧ zgA w 188 0 (7 * A.length + 2) = f.2.1 11 ∧ zgA w 188 0 (7 * A.length + 3) = kind ∧ zgA w 188 0 (7 * A.length + 4) = addr ∧ zgA w 188 0 (7 * A.length + 5) = dv ∧ zgA w 188 0 (7 * A.length + 6) = Int32.ofNat f.1) ∧ ((dv = -1 ∧ XM = []) ∨ ∃ d, d < 2400 ∧ dv = Int32.ofNat d ∧ XM = [d]) ∧ zPm w1 T K XM kind addr dv f.2 ∧ zPC 14 z1 x f.2 ∧ zIp z1 w1 T E (sF g (A ++ B)) (sF g (A ++ B)) Wy R mk K [x] XM [] TA TB ∧ zFr 0x6000000000000000000000000000000000000000000000000000000000000000000000000000000000000000000000000000000000000000000000000000000000000000000000000000000100000000000000000000000000000000000000000000000000000000000000000000000000000000000000000000000000000000000000000000000000000000000000000000000000000000000000000000000000000000000 z z1 ∧ zK7 z z1 ∧ zFr 0x1000000000000000000000000000000008000000000000000000000000000000000000000000000000000000000000000000000000000000000000000000000000000000000000000000000000000000000000000000000000000000000000000000000000000000000000000000000000000000000000000000000000000000000000000000000000000000000000000000000000000000000000000000000000000000000000000000000 w w1 := by
  obtain ⟨⟨p1, p2, p3, p4, ⟨p5, p6, p7⟩, p8, p9, p10⟩, hR, hW⟩ := hp
  obtain ⟨hTC, hc, hEc, hEw, hNd, hWc, hAc, hHc, hNo, hXl⟩ := p1
  obtain ⟨zb, hzb⟩ : ∃ u, u = zsQ z 141 0 c (zgR z 7 14 x) := ⟨_, rfl⟩
  obtain ⟨ze, hze⟩ : ∃ u, u = if zgR z 7 14 x = none then zsQ zb 142 0 c none else zb := ⟨_, rfl⟩
  obtain ⟨z1, hz1⟩ : ∃ u, u = zsI ze 11 12 0 (zgI ze 11 12 0 - 1) := ⟨_, rfl⟩
  have fe : zFr 0x6000000000000000000000000000000000000000000000000000000000000000000000000000000000000000000000000000000000000000000000000000000000000000000000000000000000000000000000000000000000000000000000000000000000000000000000000000000000000000000000000000000000000000000000000000000000000000000000000000000000000000000000000000000000000000000 z ze := by
    have fb : zFr 0x6000000000000000000000000000000000000000000000000000000000000000000000000000000000000000000000000000000000000000000000000000000000000000000000000000000000000000000000000000000000000000000000000000000000000000000000000000000000000000000000000000000000000000000000000000000000000000000000000000000000000000000000000000000000000000000 z zb := by rw [hzb]; exact zFr_Q (zFr_rf _ _) (by decide)
    rw [hze]; split
    · exact zFr_Q fb (by decide)
    · exact fb
  have f1 : zFr 0x6000000000000000000000000000000000000000000000000000000000000000000000000000000000000000000000000000000000000000000000000000000000000000000000000000000100000000000000000000000000000000000000000000000000000000000000000000000000000000000000000000000000000000000000000000000000000000000000000000000000000000000000000000000000000000000 z z1 := by rw [hz1]; exact zFr_I (zFr_w fe (by decide)) (by decide)
  have I1 : ∀ k j o, ¬ (k = 11 ∧ j = 12) → zgI z1 k j o = zgI z k j o := fun k j o n => by
    rw [hz1, zgI_sI, if_neg (fun y => n ⟨y.1, y.2.1⟩), hze]
    split <;> (rw [hzb]; rfl)
  have A1 : ∀ k o i, zgA z1 k o i = zgA z k o i := fun k o i => by
    rw [hz1]; show zgA ze k o i = _
    rw [hze]; split <;> (rw [hzb]; rfl)
  have R1 : ∀ k o i, zgR z1 k o i = zgR z k o i := fun k o i => by
    rw [hz1]; show zgR ze k o i = _
    rw [hze]; split <;> (rw [hzb]; rfl)
  have Q1 : ∀ d, zgQ z1 141 0 d = if d = c then zgR z 7 14 x else zgQ z 141 0 d := fun d => by
    rw [hz1]; show zgQ ze 141 0 d = _
    rw [hze]
    split
    · rw [zgQ_sQ, if_neg (by simp), hzb]; exact zgQ_sQ2 d
    · rw [hzb]; exact zgQ_sQ2 d
  have Q2 : ∀ d, zgQ z1 142 0 d = if d = c then (if zgR z 7 14 x = none then none else zgQ z 142 0 c) else zgQ z 142 0 d := fun d => by
    rw [hz1]; show zgQ ze 142 0 d = _
    rw [hze]
    by_cases y : zgR z 7 14 x = none
    · rw [if_pos y, if_pos y, zgQ_sQ2, hzb]
      by_cases e : d = c
      · rw [if_pos e, if_pos e]
      · rw [if_neg e, if_neg e, zgQ_sQ, if_neg (by simp)]
    · rw [if_neg y, if_neg y, hzb, zgQ_sQ, if_neg (by simp)]
      by_cases e : d = c
      · rw [if_pos e, e]
      · rw [if_neg e]
  have e12 : zgI z1 11 12 0 = zgI z 11 12 0 - 1 := by
    rw [hz1, zgI_sI, if_pos ⟨rfl, rfl, rfl⟩, hze]
    split <;> (rw [hzb]; rfl)
  obtain ⟨A, f, B, a1, a2, a3, a4, a5, a6, a7, a8⟩ := zc_pop hNd.2.2 hc256 hx Q1 Q2 e12 (fun j u => I1 7 j u (by omega)) (fun u i => A1 125 u i) (fun u => R1 7 14 u) (R1 11 11 0)
  obtain ⟨w1, kind, addr, dv, XM, b1, b2, b3, b4, b5, b6, b7⟩ := zm_takeF (N := N) p2 (by simp) a1 hN
  have hmem : ∀ h, h ∈ A ++ B → h ∈ gF g := fun h hh => by
    rw [a1]
    rcases List.mem_append.mp hh with y | y
    · exact List.mem_append_left _ y
    · exact List.mem_append_right _ (List.mem_cons_of_mem _ y)
  have C1 : zNC z1 T E (sF g (A ++ B)) [x] := ⟨zTC_fr f1 (by decide +kernel) hTC, hc, zEc_fr f1 (by decide) hEc, hEw, ⟨zTr_fr (g := g) f1 (by decide) hNd.1, zCt_fr (g := g) f1 (by decide) hNd.2.1, a5⟩, zWc_fr (g := g) f1 (by decide) (fun u _ => ⟨fun j => I1 7 j u (by omega), fun i => A1 125 u i⟩) hWc, zAc_fr (g := g) f1 (by decide) hAc, zHc_fr (g := g) f1 (by decide) hHc, zNo_kp (X := []) (fun u _ => ⟨fun j => I1 7 j u (by omega), fun i => A1 125 u i⟩) hNo, by simp⟩
  have G1 : zGI T E (zPd T R) (sF g (A ++ B)) := ⟨p4.1, p4.2.1, p4.2.2.1, fun h hh => p4.2.2.2.1 h (hmem h hh), p4.2.2.2.2⟩
  refine ⟨A, f, B, z1, w1, kind, addr, dv, XM, a1, a2, a3, fun K11 x2 => ?_, b1, b2, ?_, b4, a4, ⟨⟨C1, b5, p3, G1, ⟨zWyc_fr f1 (by decide) p5, zWym_fr b7 (by decide) p6, p7⟩, zRE_fr f1 (by decide) b7 (by decide) p8, zUt_keep (z5_fr f1 (by decide)) b7 (by decide) p9, (I1 11 15 0 (by omega)).trans p10⟩, zRg_same hR (fun c => A1 113 c 2), hW⟩, f1, fun v => ⟨fun j _ => I1 7 j v (by omega), fun i => A1 125 v i⟩, b7⟩
  · rw [zl_e, zkk (by omega) (by omega), zoC (by omega), zl_e, ← hzb, zl_e]
    have e14 : zgR zb 7 14 x = zgR z 7 14 x := by rw [hzb]; rfl
    rw [e14]
    have go : ∀ u, u = ze → fX11_letArrive_56 N K11 0 (Int32.ofNat c) x2 x u = (zk (zgI z1 7 12 x) 24 <| zl (zgQ z1 139 0 (zgI z1 7 12 x).toNatClampNeg) fun y3 => fX11_letArrive_80 N K11 N 0 (Int32.ofNat c) x2 x y3 (0 : Int32) z1) := fun u e => by
      unfold fX11_letArrive_56
      rw [e, zl_e, ← hz1]
    cases y : zgR z 7 14 x with
    | none =>
      show zk (Int32.ofNat c) 256 _ = _
      rw [zkk (by omega) (by omega), zl_e]
      exact go _ (by rw [hze, if_pos y])
    | some v => exact go _ (by rw [hze, if_neg (by rw [y]; simp)])
  · rcases b3 with ⟨y1, y2⟩ | ⟨d, y1, y2, y3⟩
    · exact Or.inl ⟨y1, y2⟩
    · exact Or.inr ⟨d, y1, y2, y3⟩
/-- nothing stands at a place: nothing is due then -/
theorem zc_empty {z : St} {fr : List Fr} {X : List Nat} {c : Nat} (h : zQq z fr X) (hc : c < 256) (hx : zgQ z 141 0 c = none) : ∀ f, f ∈ fr → f.1 % 256 ≠ c := by
  obtain ⟨Fs, S, hfs, hnd, hin, hlen, hfl, hsp, hcal, hcon⟩ := h
  have k1 := (hcal c hc).1
  have e : zpl Fs c = [] := by
    cases e : zpl Fs c with
    | nil => rfl
    | cons a l =>
      rw [e] at k1
      have : zgQ z 141 0 c = some a := k1.1
      rw [this] at hx; cases hx
  intro f hf hfc
  rw [← hfs] at hf
  obtain ⟨p, hp, rfl⟩ := List.mem_map.mp hf
  unfold zpl at e
  have m : p.1 ∈ (Fs.filter (fun f => f.2.1 % 256 == c)).map (fun f => f.1) := List.mem_map.mpr ⟨p, List.mem_filter.mpr ⟨hp, by simpa using hfc⟩, rfl⟩
  rw [e] at m; cases m
