/-! routers: adverts are told: the class puts one into a parcel, the model makes a datagram that holds one -/
theorem e126 (k : Nat) : (12 : Int32) + (6 : Int32) * Int32.ofNat k = Int32.ofNat (12 + 6 * k) := by
  rw [show (6 : Int32) * Int32.ofNat k = Int32.ofNat (6 * k) from (Int32.ofNat_mul 6 k).symm]
  exact zo_add 12 (6 * k)
theorem zc_putAdvert {z : St} {b c r num t N : Nat} {L : List En} {Ba : Nat → Option Ad} (hB : zRCb z b Ba) (e : Ba r = some (num, t, L)) (hr : r < 16) (hL : zEn L) (hN : 24 < N) :
    ∃ z', fX0_putAdvert N b 0 (Int32.ofNat r) z = some (0, z') ∧ zKd c z z' ∧ zBgF z' 3 (12 + 6 * L.length) ∧ zAe (zgA z' 125 0) r num L ∧ ∀ o i, zgA z' 113 o i = zgA z 113 o i := by
  have hB' := hB r hr
  rw [e] at hB'
  obtain ⟨b100, -, b102, b104⟩ := hB'
  have b100 : zgA z 100 b r = Int32.ofNat num := b100
  have b102 : zgA z 102 b r = Int32.ofNat L.length := b102
  have b104 : ∀ i e, L[i]? = some e → zgA z 104 (b * 16 + r) i = Int32.ofNat (ze e) := b104
  have hl := hL.1
  have A : ∀ y : St, zKd c z y → ∀ k o i, k ≠ 125 → k ≠ 113 → zgA y k o i = zgA z k o i := fun y hy k o i k1 k2 => hy.2.1 k o i (by omega) (by omega)
  obtain ⟨z1, h1⟩ : ∃ u, u = zBg z 0 3 (Int32.ofNat (12 + 6 * L.length)) := ⟨_, rfl⟩
  obtain ⟨z2, h2⟩ : ∃ u, u = zsC z1 125 0 (p2 (zgA z1 125 0) 0 (Int32.ofNat r)) := ⟨_, rfl⟩
  obtain ⟨z3, h3⟩ : ∃ u, u = zsC z2 125 0 (p4 (zgA z2 125 0) 2 (Int32.ofNat num)) := ⟨_, rfl⟩
  obtain ⟨z4, h4⟩ : ∃ u, u = zsC z3 125 0 (p2 (zgA z3 125 0) 6 (Int32.ofNat L.length)) := ⟨_, rfl⟩
  have q1 : fX7_begin N 0 (3 : Int32) (Int32.ofNat (12 + 6 * L.length)) z = some (0, z1) := by rw [h1]; exact zc_begin0
  have q2 : fX7_put2 N 0 (0 : Int32) (Int32.ofNat r) z1 = some (0, z2) := by rw [h2]; exact zc_put2 (i := 0) (by decide)
  have q3 : fX7_put4 N 0 (2 : Int32) (Int32.ofNat num) z2 = some (0, z3) := by rw [h3]; exact zc_put4 (i := 2) (by decide) (by omega)
  have q4 : fX7_put2 N 0 (6 : Int32) (Int32.ofNat L.length) z3 = some (0, z4) := by rw [h4]; exact zc_put2 (i := 6) (by decide)
  have kd1 : zKd c z z1 := by rw [h1]; exact zKd_Bg
  have kd2 : zKd c z z2 := zKd_tr kd1 (by rw [h2]; exact zKd_C)
  have kd3 : zKd c z z3 := zKd_tr kd2 (by rw [h3]; exact zKd_C)
  have kd4 : zKd c z z4 := zKd_tr kd3 (by rw [h4]; exact zKd_C)
  have f4 : zBgF z4 3 (12 + 6 * L.length) := by rw [h4, h3, h2, h1]; exact zBgF_C (zBgF_C (zBgF_C (zBgF_0 (by decide))))
  have N4 : ∀ o i, zgA z4 113 o i = zgA z 113 o i := fun o i => by
    rw [h4, zgA_sC, if_neg (by omega), h3, zgA_sC, if_neg (by omega), h2, zgA_sC, if_neg (by omega), h1]; rfl
  have r0 : g2 (zgA z4 125 0) 0 = Int32.ofNat r := by rw [h4, zgA_sCs, g2_o2 _ _ (by omega), h3, zgA_sCs, g2_o4 _ _ (by omega), h2, zgA_sCs, g2_p2, zof_and (by omega)]
  have r2 : g4 (zgA z4 125 0) 2 = Int32.ofNat num := by rw [h4, zgA_sCs, g4_o2 _ _ (by omega), h3, zgA_sCs, g4_p4]
  have r6 : g2 (zgA z4 125 0) 6 = Int32.ofNat L.length := by rw [h4, zgA_sCs, g2_p2, zof_and (by omega)]
  have loop : ∀ (m i nn : Nat) (y : St), i + m = L.length → m < nn → zKd c z y → zBgF y 3 (12 + 6 * L.length) → (∀ o i, zgA y 113 o i = zgA z 113 o i) → (g2 (zgA y 125 0) 0 = Int32.ofNat r ∧ g4 (zgA y 125 0) 2 = Int32.ofNat num ∧ g2 (zgA y 125 0) 6 = Int32.ofNat L.length) → (∀ j e, j < i → L[j]? = some e → g2 (zgA y 125 0) (12 + 6 * j) = Int32.ofNat e.1 ∧ g2 (zgA y 125 0) (12 + 6 * j + 2) = Int32.ofNat e.2.1 ∧ g2 (zgA y 125 0) (12 + 6 * j + 4) = Int32.ofNat e.2.2) →
      ∃ z', fX0_putAdvert_48 N nn b 0 (Int32.ofNat r) (Int32.ofNat i) y = some (0, z') ∧ zKd c z z' ∧ zBgF z' 3 (12 + 6 * L.length) ∧ zAe (zgA z' 125 0) r num L ∧ ∀ o i, zgA z' 113 o i = zgA z 113 o i := by
    intro m
    induction m with
    | zero =>
      intro i nn y hi hn kd f hn3 hh hrow
      obtain ⟨nn, rfl⟩ : ∃ k, nn = k + 1 := ⟨nn - 1, by omega⟩
      have : i = L.length := by omega
      subst this
      refine ⟨y, ?_, kd, f, ⟨hh.1, hh.2.1, hh.2.2, fun j e he => hrow j e (List.getElem?_eq_some_iff.mp he).1 he⟩, hn3⟩
      show fX0_putAdvert_48b N (fX0_putAdvert_48 N nn) b 0 (Int32.ofNat r) (Int32.ofNat L.length) y = _
      unfold fX0_putAdvert_48b
      rw [zkk hr (by omega), zoC (by omega), A y kd 102 b r (by omega) (by omega), b102, if_pos (Int32.le_refl _)]
    | succ m ih =>
      intro i nn y hi hn kd f hn3 hh hrow
      obtain ⟨nn, rfl⟩ : ∃ k, nn = k + 1 := ⟨nn - 1, by omega⟩
      have he : L[i]? = some L[i] := List.getElem?_eq_getElem (by omega)
      have bd := hL.2 _ (List.mem_of_getElem? he)
      generalize L[i] = en at he bd
      obtain ⟨d1, d2, d3⟩ := zdec (e := en) (by omega) (by omega) (by omega)
      have e104 : ∀ u : St, zKd c z u → zgA u 104 (b * 16 + r) i = Int32.ofNat (ze en) := fun u hu => (A u hu 104 _ i (by omega) (by omega)).trans (b104 i en he)
      obtain ⟨y1, g1⟩ : ∃ u, u = zsC y 125 0 (p2 (zgA y 125 0) (12 + 6 * i) (Int32.ofNat en.1)) := ⟨_, rfl⟩
      obtain ⟨y2, g2'⟩ : ∃ u, u = zsC y1 125 0 (p2 (zgA y1 125 0) (12 + 6 * i + 2) (Int32.ofNat en.2.1)) := ⟨_, rfl⟩
      obtain ⟨y3, g3⟩ : ∃ u, u = zsC y2 125 0 (p2 (zgA y2 125 0) (12 + 6 * i + 4) (Int32.ofNat en.2.2)) := ⟨_, rfl⟩
      have s1 : fX7_put2 N 0 (Int32.ofNat (12 + 6 * i)) (Int32.ofNat en.1) y = some (0, y1) := by rw [g1]; exact zc_put2 (by omega)
      have s2 : fX7_put2 N 0 (Int32.ofNat (12 + 6 * i + 2)) (Int32.ofNat en.2.1) y1 = some (0, y2) := by rw [g2']; exact zc_put2 (by omega)
      have s3 : fX7_put2 N 0 (Int32.ofNat (12 + 6 * i + 4)) (Int32.ofNat en.2.2) y2 = some (0, y3) := by rw [g3]; exact zc_put2 (by omega)
      have k1 : zKd c z y1 := zKd_tr kd (by rw [g1]; exact zKd_C)
      have k2 : zKd c z y2 := zKd_tr k1 (by rw [g2']; exact zKd_C)
      have k3 : zKd c z y3 := zKd_tr k2 (by rw [g3]; exact zKd_C)
      have eB : zgA y3 125 0 = p2 (p2 (p2 (zgA y 125 0) (12 + 6 * i) (Int32.ofNat en.1)) (12 + 6 * i + 2) (Int32.ofNat en.2.1)) (12 + 6 * i + 4) (Int32.ofNat en.2.2) := by rw [g3, zgA_sCs, g2', zgA_sCs, g1, zgA_sCs]
      obtain ⟨z', t1, t2⟩ := ih (i + 1) nn y3 (by omega) (by omega) k3 (by rw [g3, g2', g1]; exact zBgF_C (zBgF_C (zBgF_C f))) (fun o j => by
        rw [g3, zgA_sC, if_neg (by omega), g2', zgA_sC, if_neg (by omega), g1, zgA_sC, if_neg (by omega)]; exact hn3 o j) ⟨by rw [eB, g2_o2 _ _ (by omega), g2_o2 _ _ (by omega), g2_o2 _ _ (by omega)]; exact hh.1, by rw [eB, g4_o2 _ _ (by omega), g4_o2 _ _ (by omega), g4_o2 _ _ (by omega)]; exact hh.2.1, by rw [eB, g2_o2 _ _ (by omega), g2_o2 _ _ (by omega), g2_o2 _ _ (by omega)]; exact hh.2.2⟩ (fun j e hj hje => by
        by_cases cj : j = i
        · subst cj
          rw [he] at hje
          have : en = e := Option.some.inj hje
          subst this
          refine ⟨?_, ?_, ?_⟩
          · rw [eB, g2_o2 _ _ (by omega), g2_o2 _ _ (by omega), g2_p2, zof_and (by omega)]
          · rw [eB, g2_o2 _ _ (by omega), g2_p2, zof_and (by omega)]
          · rw [eB, g2_p2, zof_and (by omega)]
        · obtain ⟨o1, o2, o3⟩ := hrow j e (by omega) hje
          refine ⟨?_, ?_, ?_⟩
          · rw [eB, g2_o2 _ _ (by omega), g2_o2 _ _ (by omega), g2_o2 _ _ (by omega)]; exact o1
          · rw [eB, g2_o2 _ _ (by omega), g2_o2 _ _ (by omega), g2_o2 _ _ (by omega)]; exact o2
          · rw [eB, g2_o2 _ _ (by omega), g2_o2 _ _ (by omega), g2_o2 _ _ (by omega)]; exact o3)
      refine ⟨z', ?_, t2⟩
      show fX0_putAdvert_48b N (fX0_putAdvert_48 N nn) b 0 (Int32.ofNat r) (Int32.ofNat i) y = _
      unfold fX0_putAdvert_48b fX0_friendOf fX0_netOfEntry fX0_tollOf
      have z16 : ∀ {β : Type} (k : Option β), zk (Int32.ofNat r) 16 k = k := fun k => zkk hr (by omega) k
      have z24 : ∀ {β : Type} (k : Option β), zk (Int32.ofNat i) 24 k = k := fun k => zkk (by omega) (by omega) k
      rw [z16, zoC (show r < 2147483648 by omega), zoC (show i < 2147483648 by omega), A y kd 102 b r (by omega) (by omega), b102, if_neg (by rw [zo_le (by omega) (by omega)]; omega), e126, zl_e, z16, z24, e104 y kd, d1, zc_e, Int32.sub_add_cancel, s1, zc_e, z16, z24, e104 y1 k1, d2, zc_e, show (2 : Int32) = Int32.ofNat 2 from rfl, zo_add, s2, zc_e, z16, z24, e104 y2 k2, d3, zc_e, show (4 : Int32) = Int32.ofNat 4 from rfl, zo_add, s3, zc_e, zo_i1, zl_e]
      exact t1
  obtain ⟨z', t1, t2⟩ := loop L.length 0 N z4 (by omega) (by omega) kd4 f4 N4 ⟨r0, r2, r6⟩ (fun j e hj => by omega)
  refine ⟨z', ?_, t2⟩
  unfold fX0_putAdvert
  rw [zkk hr (by omega), zoC (by omega), b102, e126, q1, zc_e, q2, zc_e, zkk hr (by omega), A z2 kd2 100 b r (by omega) (by omega), b100, q3, zc_e, zkk hr (by omega), A z3 kd3 102 b r (by omega) (by omega), b102, q4, zc_e]
  exact t1
/-- a datagram that was made just now holds an advert that is held beside, too -/
theorem zm_textN {w : St} {T : Tp} {K : Int32 → Int32 → Int32 → Prop} {g : Sg} {X TS TA TB : List Nat} {c a : Nat} (hc : zTc T) (h : zNm w T K g (c :: X) TS TA TB) (h11 : md w c 11 = -1) (ha : a < 2400) (haT : a ∈ TA) : zNm (zsA (zsA w 172 0 (18 * c + 11) (Int32.ofNat a)) 179 0 a (zgA w 179 0 a + 1)) T K g (c :: X) TS TA TB ∧ zKm X w (zsA (zsA w 172 0 (18 * c + 11) (Int32.ofNat a)) 179 0 a (zgA w 179 0 a + 1)) := by
  obtain ⟨ms, mw, h1, h2, h3⟩ := h
  rw [hold_cons] at h3
  obtain ⟨⟨p1, p2, p3, pbd⟩, p4, p5, p6, p7, p8⟩ := h3
  obtain ⟨nc, p1'⟩ := List.nodup_cons.mp p1
  let w3 : St := zsA (zsA w 172 0 (18 * c + 11) (Int32.ofNat a)) 179 0 a (zgA w 179 0 a + 1)
  have m3 : ∀ e j, j < 18 → md w3 e j = if e = c ∧ j = 11 then Int32.ofNat a else md w e j := fun e j hj => by
    show zgA (zsA (zsA w 172 0 (18 * c + 11) _) 179 0 a _) 172 0 (18 * e + j) = _
    rw [zgA_sA, if_neg (by omega)]
    exact md_set (by omega) hj
  have A3 : ∀ k o i, k ≠ 172 → k ≠ 179 → zgA w3 k o i = zgA w k o i := fun k o i n1 n2 => by
    show zgA (zsA (zsA w 172 0 _ _) 179 0 a _) k o i = _
    rw [zgA_sA, if_neg (fun y => n2 y.1), zgA_sA, if_neg (fun y => n1 y.1)]
  have I3 : ∀ k j o, zgI w3 k j o = zgI w k j o := fun _ _ _ => rfl
  have kk : zKm (hold X ms mw) w w3 := ⟨fun e j he hj => by rw [m3 e j hj, if_neg (fun y => nc (by rw [← y.1]; exact he))], fun k i => A3 174 k i (by omega) (by omega), fun k i => A3 178 k i (by omega) (by omega), fun _ _ _ => rfl⟩
  have gs : ∀ e, e ∈ hold X ms mw → mgs w3 e = mgs w e ∧ mga w3 e = mga w e := fun e he => by
    unfold mgs mga
    rw [kk.1 e 10 he (by omega), kk.1 e 11 he (by omega)]
    exact ⟨rfl, rfl⟩
  have fm1 : (hold X ms mw).filterMap (mgs w3) = (hold X ms mw).filterMap (mgs w) := zfm_cg (fun e he => (gs e he).1)
  have fm2 : (hold X ms mw).filterMap (mga w3) = (hold X ms mw).filterMap (mga w) := zfm_cg (fun e he => (gs e he).2)
  have gc : mgs w3 c = mgs w c := by unfold mgs; rw [m3 c 10 (by omega), if_neg (show ¬ (c = c ∧ 10 = 11) by omega)]
  have gac : mga w3 c = some a := mga_of (by rw [m3 c 11 (by omega), if_pos ⟨rfl, rfl⟩]) ha
  have ga0 : mga w c = none := by unfold mga; rw [if_pos h11]
  have fmc : (c :: hold X ms mw).filterMap (mgs w3) = (c :: hold X ms mw).filterMap (mgs w) := zfm_cg (fun e he => by
    rcases List.mem_cons.mp he with y | y
    · rw [y]; exact gc
    · exact (gs e y).1)
  have hid : ∀ d D, d ∈ hold X ms mw → zMD w T K d D → zMD w3 T K d D := fun d D hd => zKm_MD kk hd
  have hn1 : ∀ d, some d ∈ ms → d ∈ hold X ms mw := fun d hd => hold_mem.mpr (Or.inr (Or.inl hd))
  refine ⟨⟨ms, mw, zFm_cg (w := w) (fun i => A3 188 0 i (by omega) (by omega)) rfl (fun e D he => hid e D (hn1 e he)) h1, ⟨fun q hq => zWqm_cg (w := w) (w' := w3) rfl (fun i => A3 170 q i (by omega) (by omega)) (fun i => A3 171 q i (by omega) (by omega)) (fun e D he => hid e D (hold_mem.mpr (Or.inr (Or.inr ⟨q, tv_192 hc hq, he⟩)))) (h2.1 q hq), h2.2⟩, ?_⟩, zKm_sub (fun e he => hold_X e he) kk⟩
  rw [hold_cons]
  refine ⟨⟨p1, p2, ?_, pbd⟩, fun e he => ?_, ?_, ?_, ?_, fun s hs => ?_⟩
  · have e173 : (fun i => zgA w3 173 0 i) = (fun i => zgA w 173 0 i) := funext (fun i => A3 173 0 i (by omega) (by omega))
    rw [e173]; exact p3
  · obtain ⟨u1, u2⟩ := p4 e he
    rw [m3 e 10 (by omega), if_neg (by omega), m3 e 11 (by omega)]
    refine ⟨u1, ?_⟩
    by_cases y : e = c
    · rw [if_pos ⟨y, rfl⟩]; exact Or.inr ⟨a, ha, rfl⟩
    · rw [if_neg (fun q => y q.1)]; exact u2
  · rw [fmc]
    have f1 : (fun i => zgA w3 176 0 i) = (fun i => zgA w 176 0 i) := funext (fun i => A3 176 0 i (by omega) (by omega))
    have f2 : (fun i => zgA w3 177 0 i) = (fun i => zgA w 177 0 i) := funext (fun i => A3 177 0 i (by omega) (by omega))
    rw [f1, f2]; exact p5
  · rw [List.filterMap_cons_some gac, fm2]
    rw [List.filterMap_cons_none ga0] at p6
    have f2 : (fun i => zgA w3 180 0 i) = (fun i => zgA w 180 0 i) := funext (fun i => A3 180 0 i (by omega) (by omega))
    rw [f2]
    refine zRc_hold p6 (List.mem_append.mpr (Or.inr haT)) (fun y => ?_)
    show zgA w3 179 0 y = if y = a then zgA w 179 0 a + 1 else zgA w 179 0 y
    show zgA (zsA (zsA w 172 0 _ _) 179 0 a _) 179 0 y = _
    rw [zgA_sA]
    by_cases e : y = a
    · rw [if_pos ⟨rfl, rfl, e⟩, if_pos e]
    · rw [if_neg (fun q => e q.2.2), if_neg e, zgA_sA, if_neg (by omega)]
  · rw [fmc]
    have f1 : (fun i => zgA w3 183 0 i) = (fun i => zgA w 183 0 i) := funext (fun i => A3 183 0 i (by omega) (by omega))
    have f2 : (fun i => zgA w3 185 0 i) = (fun i => zgA w 185 0 i) := funext (fun i => A3 185 0 i (by omega) (by omega))
    rw [f1, f2, zbks_cg (w := w) (L := (c :: hold X ms mw).filterMap (mgs w) ++ TS) (fun _ _ => Iff.rfl) (fun s _ _ => A3 174 0 _ (by omega) (by omega))]
    exact p7
  · rw [fmc] at hs
    have : msg w3 s 8 = msg w s 8 := A3 174 0 _ (by omega) (by omega)
    rw [this]
    exact p8 s hs
theorem zMA_of {w : St} {a r num : Nat} {L : List En} {D : Dg} (h : zAdw w a r num L) (hA : zAe D.2 r num L) (hL : zEn L) (hw : dw D = 12 + 6 * L.length) : zMA w a D := by
  obtain ⟨⟨h0, h1⟩, nN, ⟨n1, n2⟩, h2, h3, h4, h5⟩ := h
  obtain ⟨a0, a2, a6, ar⟩ := hA
  have en : nN + (L.length - nN) = L.length := by omega
  refine ⟨by rw [h0, a0], by rw [h1, a2], nN, L.length - nN, by omega, h2, h3, by rw [en]; exact a6, by rw [en]; exact hw, fun k hk => ?_, fun k k1 k2 => h5 k (by omega) k2⟩
  have g : L[k]? = some L[k] := List.getElem?_eq_getElem (by omega)
  obtain ⟨u0, u1, u2, u3⟩ := h4 k _ g
  obtain ⟨v0, v1, v2⟩ := ar k _ g
  have bd := hL.2 _ (List.mem_of_getElem? g)
  rw [show 5 + 3 * k = 4 + 3 * k + 1 from by omega, show 6 + 3 * k = 4 + 3 * k + 2 from by omega, show 14 + 6 * k = 12 + 6 * k + 2 from by omega, show 16 + 6 * k = 12 + 6 * k + 4 from by omega, u0, u1, u2, v0, v1, v2]
  refine ⟨rfl, rfl, rfl, ?_⟩
  rw [show (0 : Int32) = Int32.ofNat 0 from rfl, zo_eq (by omega) (by omega)]
  exact u3
