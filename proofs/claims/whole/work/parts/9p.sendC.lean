/-! the class sends and passes on -/
/-- what the class's network reads, parcels and tallies aside -/
def mNCx : Nat := mTC ||| (mEc ||| (mTr ||| (0x2000000000000000000000000000000000000000000000000000000000000000000000000000000000000000000000020000000000000000000000000000000000000000000000000000000000000000000000000000000000 ||| (0x6000000000000000000000000000000000000000000000000000000000000000000000000000000000000000000000000000000000000000000000000000000000000000000000000000000180000000000000000000000000000000000000000000000000000000000000040000000000000000000000000000000000000000000000000000000000000000000000000000000000000000000000000000000000000000000 ||| (0x4000000000000000000000000000000000000000000000000000000000000000000000000000000000000000000000000000000000000000000000000000000000000000000000000000000000000000000000000000000000000000000000000000100000000000000000000000000000000000000000000000000000000000000000000000000000000000000000000000000000000000000000000000000000000000 ||| (0x1800000000000000000000000000000000000000000000000000000000000000000000000000000000000000000000000000000000000000000000000000000000000000000000000000000000000000000000000000000000000000000000000000020000000000000000000000000000000000000000000000000000000000000000000000000000000000000000000000000000000000000000000000000000000000 ||| 0x400000000000000000000000000000000000000000000000000000000000000000000000000000000000000000000000000000000000000000000000000000000000000000000000000000000000000000000000000000000000000000000000000000000000000000000000000000000000000000000000000000000000000000000000000000000000000000000000000000000000000000000000000000000000000))))))
theorem zNC_cg {M : Nat} {z z' : St} {T : Tp} {E : Ev} {g : Sg} {X : List Nat} (f : zFr M z z') (hm : mNCx &&& M = 0) (hp : ∀ u, u ≠ 0 → ¬ (515 ≤ u ∧ u < 579) → u ∉ X → (∀ j, zgI z' 7 j u = zgI z 7 j u) ∧ ∀ i, zgA z' 125 u i = zgA z 125 u i) (h5 : ∀ b, zgA z' 113 b 5 = zgA z 113 b 5) (h : zNC z T E g X) : zNC z' T E g X := by
  obtain ⟨h1, h2, h3, h4, ⟨t1, t2, t3⟩, h6, h7, h8, h9, hX⟩ := h
  obtain ⟨k1, r1⟩ := zmsk2 hm
  obtain ⟨k2, r2⟩ := zmsk2 r1
  obtain ⟨k3, r3⟩ := zmsk2 r2
  obtain ⟨k4, r4⟩ := zmsk2 r3
  obtain ⟨k5, r5⟩ := zmsk2 r4
  obtain ⟨k6, r6⟩ := zmsk2 r5
  obtain ⟨k7, k8⟩ := zmsk2 r6
  have x515 : ∀ x, x ∈ X → x < 515 := fun x hx => (zX1 t3 x hx).2
  refine ⟨zTC_fr f k1 h1, h2, zEc_fr f k2 h3, h4, ⟨zTr_fr f k3 t1, ⟨fun n hn => (zFr_gI f (by decide) (ztf k4 (by decide)) n).trans (t2.1 n hn), fun b hb => (h5 b).trans (t2.2.1 b hb), (zFr_gI f (by decide) (ztf k4 (by decide)) 0).trans t2.2.2⟩, ?_⟩, ?_, zAc_fr f k7 h7, zHc_fr f k8 h8, ?_, hX⟩
  · obtain ⟨Fs, S, hfs, hnd, hin, hlen, hfl, hsp, hcal, hcon⟩ := t3
    have e14 : (fun x => zgR z' 7 14 x) = (fun x => zgR z 7 14 x) := funext (fun x => zFr_gR f (by decide) (ztf k5 (by decide)) x)
    have e141 : (fun c => zgQ z' 141 0 c) = (fun c => zgQ z 141 0 c) := funext (fun x => zFr_gQ f (ztf k5 (by decide)) 0 x)
    have e142 : (fun c => zgQ z' 142 0 c) = (fun c => zgQ z 142 0 c) := funext (fun x => zFr_gQ f (ztf k5 (by decide)) 0 x)
    refine ⟨Fs, S, hfs, hnd, hin, hlen, ?_, ?_, ?_, fun q hq => ?_⟩
    · rw [zFr_gI f (by decide) (ztf k5 (by decide))]; exact hfl
    · rw [e14, zFr_gR f (by decide) (ztf k5 (by decide))]; exact hsp
    · rw [e14, e141, e142]; exact hcal
    · have hq' : q.1 ∈ Fs.map (fun f => f.1) := List.mem_map.mpr ⟨q, hq, rfl⟩
      have := hin q.1 (List.mem_append.mpr (Or.inl hq'))
      have hqX : q.1 ∉ X := fun m => (List.nodup_append.mp hnd).2.2 q.1 hq' q.1 (by simp [m]) rfl
      have p := hp q.1 (by omega) (by omega) hqX
      exact zPC_cg (fun j _ => p.1 j) p.2 (hcon q hq)
  · intro q hq
    exact ⟨(h6 q hq).1, zWq_cg (zFr_gI f (by decide) (ztf k6 (by decide)) q) (fun i => zFr_gQ f (ztf k6 (by decide)) q i) (fun u hu _ => hp u (by omega) (by omega) (fun m => by have := x515 u m; omega)) (h6 q hq).2⟩
  · have p := hp 1 (by omega) (by omega) (fun m => by have := (zX1 t3 1 m).1; omega)
    exact ⟨(p.1 3).trans h9.1, fun i => (p.2 i).trans (h9.2 i)⟩
theorem zc_sendOff {z : St} {T : Tp} {E : Ev} {g : Sg} {X : List Nat} {Wy : Wyt} {b x N : Nat} {D : Dg} (h : zNC z T E g X) (hW : zWyc z T Wy) (hWw : zWyw T Wy) (hg : zGc T E g) (hb : b < tb T) (hx : x = 0 ∨ (515 ≤ x ∧ x < 579) ∨ x ∈ X) (hD : zPC 11 z x D) (hDw : zDw D) (hN : 1481 < N) :
    (∀ q s, rt T Wy b (D.1 1) = some (q, s) → ∃ z', fX11_sendOff N 0 b x z = some (0, z') ∧ zNC z' T E (nHand E b g q s D) X ∧ zKh X q z z' ∧ zFr mX11_hand z z' ∧ fX11_hand N 0 q (Int32.ofNat s) x z = some (0, z')) ∧
    (rt T Wy b (D.1 1) = none → fX11_sendOff N 0 b x z = zc (fX11_comeBack N 0 b x (1 : Int32) z) fun _ z' => some (0, z')) := by
  have hT := h.1
  have hc := h.2.1
  have hp6 := (hc.2.2.2.2.1 b hb).1
  obtain ⟨-, -, kr, -, kq, -⟩ := hT.2.1.2 b hb
  have e1 : zgI z 7 1 x = D.1 1 := hD.1 1 (by omega) (by omega)
  have hrun : fX11_sendOff N 0 b x z = fX11_sendOff_28 N 0 b x (rtn T (rt T Wy b (D.1 1))) z := by
    unfold fX11_sendOff
    rw [kr, e1]
    unfold rt
    by_cases c : tr T b = true
    · rw [c, if_neg (by decide), if_pos rfl, zc_routeR hT hc hW hWw _ hb c (by omega), zc_e]
    · have c' : tr T b = false := by simpa using c
      rw [c', if_pos (by rfl), if_neg (by decide), zc_routeH hT hc _ hb (by omega), zc_e]
  rw [hrun]
  unfold fX11_sendOff_28
  refine ⟨fun q s er => ?_, fun er => ?_⟩
  · obtain ⟨v1, v2, v3⟩ := rt_some hc hWw hb er
    have hti := (hc.2.2.2.2.2.1 q v1).2
    rw [v2] at hti
    obtain ⟨z', r1, r2, r3⟩ := zc_hand (N := N) h hg v1 v3 hx hD hDw hN
    rw [v2] at r2
    refine ⟨z', ?_, r2, r3, wX11_hand (Nat.and_self _) (zFr_rf _ _) _ _ r1, r1⟩
    have e8 := zrt (8 * ti T q + s) (by omega)
    rw [er]
    show (if 0 ≤ Int32.ofNat (8 * ti T q + s) then _ else _) = _
    rw [if_pos (zo_ge (by omega))]
    show zk (Int32.ofNat (8 * ti T q + s) >>> ((3 : Int32) &&& 31)) 6 _ = _
    rw [e8.1, zkk (by omega) (by omega), zl_e, show rtn T (some (q, s)) = Int32.ofNat (8 * ti T q + s) from rfl, e8.1, e8.2, zoC (by omega)]
    have e3 : (8 * ti T q + s) / 8 = ti T q := by omega
    have e4 : (8 * ti T q + s) % 8 = s := by omega
    rw [e3, e4, kq _ hti.1, hti.2, zd_e, r1, zc_e]
  · rw [er, show rtn T none = (-1 : Int32) from rfl, if_neg (by decide)]
