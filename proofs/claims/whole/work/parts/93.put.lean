/-! the class: a frame is put on a net -/
theorem zand63 {k : Nat} (h : k < 4294967296) : Int32.ofNat k &&& (63 : Int32) = Int32.ofNat (k % 64) := by
  apply zun_inj
  have e : zun (Int32.ofNat k &&& (63 : Int32)) = zun (Int32.ofNat k) % 64 := by
    show ((Int32.ofNat k).toBitVec &&& 63#32).toNat = _
    rw [BitVec.toNat_and]
    exact Nat.and_two_pow_sub_one_eq_mod _ 6
  rw [e, zun_of h, zun_of (by omega)]
def mQc : Nat := 0x600020000000000000000000000000000000000000000000000000000000000000000000000000000000000000000000000000000000000000000000000000000000000000000000000000018000000000000000000000000000000000000000000000000000000000000007fff0000000000000000000000000000000000000000000000000000000000000000000000000000000000000000000000000000000000000000
theorem zQq_fr {M : Nat} {z z' : St} {fr : List Fr} {X : List Nat} (f : zFr M z z') (hm : mQc &&& M = 0) (h : zQq z fr X) : zQq z' fr X := by
  have g7 : ∀ j, j < 14 → mQc.testBit (64 * 7 + j) = true := by decide
  obtain ⟨Fs, S, hfs, hnd, hin, hlen, hfl, hsp, hcal, hcon⟩ := h
  have e14 : (fun x => zgR z' 7 14 x) = (fun x => zgR z 7 14 x) := funext (fun x => zFr_gR f (by decide) (ztf hm (by decide)) x)
  have e141 : (fun c => zgQ z' 141 0 c) = (fun c => zgQ z 141 0 c) := funext (fun x => zFr_gQ f (ztf hm (by decide)) 0 x)
  have e142 : (fun c => zgQ z' 142 0 c) = (fun c => zgQ z 142 0 c) := funext (fun x => zFr_gQ f (ztf hm (by decide)) 0 x)
  refine ⟨Fs, S, hfs, hnd, hin, hlen, ?_, ?_, ?_, ?_⟩
  · rw [zFr_gI f (by decide) (ztf hm (by decide))]; exact hfl
  · rw [e14, zFr_gR f (by decide) (ztf hm (by decide))]; exact hsp
  · rw [e14, e141, e142]; exact hcal
  · intro q hq
    exact zPC_cg (fun j hj => zFr_gI f (by decide) (ztf hm (g7 j hj)) q.1) (fun i => zFr_gA f (ztf hm (by decide)) q.1 i) (hcon q hq)
def mCt : Nat := 0x200000000000000000000000000000000000000000000000000000000000000000000000000000000000000000000000000000000000000000000000000000000000000000000000002000000000000000000000000000000000000000000000000000000000000000000000000000000000000000000000020000000000000000000000000000000000000000000000000000000000000000000000000000000000
theorem zCt_fr {M : Nat} {z z' : St} {T : Tp} {g : Sg} (f : zFr M z z') (hm : mCt &&& M = 0) (h : zCt z T g) : zCt z' T g := by
  have gI : ∀ k j o, k < 100 → mCt.testBit (64 * k + j) = true → zgI z' k j o = zgI z k j o := fun k j o hk hb => zFr_gI f hk (ztf hm hb) o
  have gA' : ∀ k o i, mCt.testBit (1180 + k) = true → zgA z' k o i = zgA z k o i := fun k o i hb => zFr_gA f (ztf hm hb) o i
  unfold zCt
  simp (disch := decide) only [gI, gA']
  exact h
theorem zc_nextFate {z : St} {T : Tp} {g : Sg} {n N : Nat} (h : zTr z T g) (hn : n < tn T) : ∃ z', fX5_nextFate N n z = some ((gT g n).headD 0, z') ∧ zTr z' T (sT g (zupd (gT g) n (gT g n).tail)) ∧ (∀ k j o, k ≠ 5 → zgI z' k j o = zgI z k j o) ∧ (∀ k o i, zgA z' k o i = zgA z k o i) := by
  obtain ⟨h64, a, ha, h5, h6, hr⟩ := h n hn
  unfold fX5_nextFate
  rw [h6]
  cases hL : gT g n with
  | nil =>
    rw [if_neg (by simp)]
    refine ⟨z, rfl, ?_, fun _ _ _ _ => rfl, fun _ _ _ => rfl⟩
    have e : zupd (gT g) n (List.tail []) = gT g := by
      funext i
      unfold zupd
      by_cases q : i = n
      · rw [if_pos q, q, hL]; rfl
      · rw [if_neg q]
    rw [e]
    exact h
  | cons x t =>
    rw [hL] at h64 hr h6
    have hlen : (x :: t).length = t.length + 1 := rfl
    rw [if_pos (by rw [show (0 : Int32) = Int32.ofNat 0 from rfl, zo_eq (by omega) (by omega)]; simp)]
    have e0 : zgA z 122 n a = x := by
      have := hr 0 x rfl
      rw [show (a + 0) % 64 = a by omega] at this
      exact this
    rw [h5, zkk (by omega) (by omega), zl_e, zoC (by omega), e0, zl_e, zl_e]
    refine ⟨_, rfl, ?_, ?_, fun _ _ _ => rfl⟩
    · intro m hm
      by_cases q : m = n
      · subst q
        have e1 : gT (sT g (zupd (gT g) m (x :: t).tail)) m = t := zupd_s _ _ _
        rw [e1]
        refine ⟨by omega, (a + 1) % 64, by omega, ?_, ?_, ?_⟩
        · rw [zgI_sI, if_neg (by simp), zgI_sI, if_pos ⟨rfl, rfl, rfl⟩, zo_i1, zand63 (by omega)]
        · rw [zgI_sI, if_pos ⟨rfl, rfl, rfl⟩, zgI_sI, if_neg (by simp), h6, hlen, zo_s1 (by omega)]
          rfl
        · intro i y hi
          have := hr (i + 1) y (by simpa using hi)
          rw [show ((a + 1) % 64 + i) % 64 = (a + (i + 1)) % 64 by omega]
          exact this
      · have e1 : gT (sT g (zupd (gT g) n (x :: t).tail)) m = gT g m := zupd_n q
        rw [e1]
        obtain ⟨k64, b, hb, b5, b6, br⟩ := h m hm
        refine ⟨k64, b, hb, ?_, ?_, br⟩
        · simp only [zgI_sI, q, and_false, if_false]; exact b5
        · simp only [zgI_sI, q, and_false, if_false]; exact b6
    · intro k j o hk
      simp only [zgI_sI, hk, false_and, if_false]
def zNd (z : St) (T : Tp) (g : Sg) (X : List Nat) : Prop := zTr z T g ∧ zCt z T g ∧ zQq z (gF g) X
theorem zCt_now {z : St} {T : Tp} {g : Sg} {t : Nat} (h : zCt z T g) : zCt (zsI z 11 5 0 (Int32.ofNat t)) T (sS g t) := by
  refine ⟨fun n hn => ?_, h.2.1, ?_⟩
  · rw [zgI_sI, if_neg (by simp)]; exact h.1 n hn
  · rw [zgI_sI, if_pos ⟨rfl, rfl, rfl⟩]; rfl
theorem zNd_now {z : St} {T : Tp} {g : Sg} {X : List Nat} {t : Nat} (h : zNd z T g X) : zNd (zsI z 11 5 0 (Int32.ofNat t)) T (sS g t) X := by
  have f : zFr 0x2000000000000000000000000000000000000000000000000000000000000000000000000000000000000000000000000000000000000000000000000000000000000000000000000000000000000000000000000000000000 z (zsI z 11 5 0 (Int32.ofNat t)) := zFr_I (zFr_rf _ _) (by decide)
  exact ⟨zTr_fr f (by decide) h.1, zCt_now h.2.1, zQq_fr f (by decide) h.2.2⟩
theorem zKp_I {X : List Nat} {z : St} {k j o : Nat} {v : Int32} (hk : k ≠ 7) : zKp X z (zsI z k j o v) := fun u _ => ⟨fun j' => by rw [zgI_sI, if_neg (fun q => hk q.1.symm)], fun _ => rfl⟩
def mPF : Nat := 0x2000000000000000000000000000000000000000000000000000000000000000000000000000000000000000000000000000000000000000000000000000000000000000000000000000000000000000000000000000000000 ||| mFr1
theorem zc_putFrame42 {z : St} {T : Tp} {E : Ev} {g : Sg} {X : List Nat} {q x a b N : Nat} {to f : Int32} {D : Dg} (hT : zTC z T) (hc : zTc T) (hE : zEc z T E) (hw : zEw T E) (hg : zNd z T g X) (hq : tv T q) (hx : x < 2 ∨ 515 ≤ x ∨ x ∈ X) (hD : zPC 11 z x D) (hDw : zDw D) (hab : a + b ≤ dl D) (hb : 1 ≤ b) (hX : X.length ≤ 1) (hN : 3 < N) :
    ∃ z', fX11_putFrame_42 N 0 q to x (Int32.ofNat a) (Int32.ofNat b) (q / 8) f z = some (0, z') ∧ zNd z' T (if f = 1 then g else if 512 < (gF g).length + (if f = 2 then 2 else 1) then sS g (eN E) else sF g (gF g ++ nArr f (eN E) (eD E (q / 8)) (nQ q D to a b))) X ∧ zKp X z z' ∧ zFr mPF z z' := by
  obtain ⟨h1, h2, h3⟩ := hg
  have hd := hw.2 _ hq.1
  have hfl : zgI z 11 12 0 = Int32.ofNat (gF g).length := h3.choose_spec.choose_spec.2.2.2.2.1
  have hlen : (gF g).length ≤ 513 := by
    obtain ⟨Fs, S, -, -, -, hl, -⟩ := h3
    omega
  have g1 := (hE.2 _ hq.1).2.1
  unfold fX11_putFrame_42
  by_cases c1 : f = 1
  · rw [if_neg (fun q => q c1), if_pos c1]
    exact ⟨z, rfl, ⟨h1, h2, h3⟩, zKp_rf X z, zFr_rf _ _⟩
  rw [if_pos c1, if_neg c1]
  -- no room
  have noroom : ∀ k, 512 < (gF g).length + k → k ≤ 2 → ∃ z', fX11_putFrame_60 N 0 q to x (Int32.ofNat a) (Int32.ofNat b) (q / 8) f (Int32.ofNat k) z = some (0, z') ∧ zNd z' T (sS g (eN E)) X ∧ zKp X z z' ∧ zFr mPF z z' := by
    intro k hk h2k
    unfold fX11_putFrame_60 fX11_stir
    rw [hfl, zo_add, show (512 : Int32) = Int32.ofNat 512 from rfl, if_neg (by rw [zo_le (by omega) (by omega)]; omega), zl_e, zc_e, hE.1]
    exact ⟨_, rfl, zNd_now ⟨h1, h2, h3⟩, zKp_I (by decide), zFr_I (zFr_rf _ _) (by decide)⟩
  -- one arrival
  have one : ∀ F, F ≤ 200 → (gF g).length + 1 ≤ 512 → ∃ z', fX11_putFrame_101 N 0 q to x (Int32.ofNat a) (Int32.ofNat b) (q / 8) (Int32.ofNat 1) (Int32.ofNat F) z = some (0, z') ∧ zNd z' T (sF g (gF g ++ [(eN E + F, nQ q D to a b)])) X ∧ zKp X z z' ∧ zFr mPF z z' := by
    intro F hF hroom
    unfold fX11_putFrame_101
    obtain ⟨n, rfl⟩ : ∃ n, N = n + 1 + 1 := ⟨N - 2, by omega⟩
    obtain ⟨z', e, r1, r2, r3⟩ := zc_putFrame1 (N := n + 1 + 1) (K := fX11_putFrame_106 (n + 1 + 1) (n + 1)) (i := 0) (arr := 1) (to := to) hT hc hE hw h3 hq hx hD hDw hab hb hF (by omega) (by omega) (by omega)
    refine ⟨z', ?_, ⟨zTr_fr r3 (by decide) h1, zCt_fr r3 (by decide) h2, r1⟩, r2, zFr_w r3 (by decide)⟩
    refine Eq.trans (show fX11_putFrame_106 (n + 1 + 1) (n + 1 + 1) 0 q to x (Int32.ofNat a) (Int32.ofNat b) (q / 8) (Int32.ofNat 1) (Int32.ofNat F) (Int32.ofNat 0) z = _ from e) ?_
    show fX11_putFrame_106b (n + 1 + 1) _ 0 q to x (Int32.ofNat a) (Int32.ofNat b) (q / 8) (Int32.ofNat 1) _ (Int32.ofNat 1) z' = _
    unfold fX11_putFrame_106b
    rw [if_pos (Int32.le_refl _)]
  by_cases c2 : f = 2
  · rw [if_neg (fun q => q c2), c2, if_pos rfl]
    by_cases hr : 512 < (gF g).length + 2
    · rw [if_pos hr]
      have h := noroom 2 hr (by omega)
      rw [c2] at h
      exact h
    rw [if_neg hr]
    unfold fX11_putFrame_60
    rw [hfl, show (2 : Int32) = Int32.ofNat 2 from rfl, zo_add, show (512 : Int32) = Int32.ofNat 512 from rfl, if_pos (by rw [zo_le (by omega) (by omega)]; omega), if_pos (by decide), g1]
    unfold fX11_putFrame_101
    obtain ⟨n, rfl⟩ : ∃ n, N = n + 1 + 1 + 1 := ⟨N - 3, by omega⟩
    obtain ⟨z1, e1, r1, r2, r3⟩ := zc_putFrame1 (N := n + 1 + 1 + 1) (K := fX11_putFrame_106 (n + 1 + 1 + 1) (n + 1 + 1)) (i := 0) (arr := 2) (to := to) (F := eD E (q / 8)) hT hc hE hw h3 hq hx hD hDw hab hb (by omega) (by omega) (by omega) (by omega)
    obtain ⟨z2, e2, s1, s2, s3⟩ := zc_putFrame1 (N := n + 1 + 1 + 1) (K := fX11_putFrame_106 (n + 1 + 1 + 1) (n + 1)) (i := 1) (arr := 2) (to := to) (F := 3 * eD E (q / 8)) (zTC_fr r3 (by decide) hT) hc (zEc_fr r3 (by decide) hE) hw r1 hq hx (zKp_PC r2 hx hD) hDw hab hb (by omega) (by omega) (by omega) (by simp only [List.length_append, List.length_cons, List.length_nil]; omega)
    have f3 := zFr_tr r3 s3
    refine ⟨z2, ?_, ⟨zTr_fr f3 (by decide) h1, zCt_fr f3 (by decide) h2, ?_⟩, zKp_tr r2 s2, zFr_w f3 (by decide)⟩
    · refine Eq.trans (show fX11_putFrame_106 (n + 1 + 1 + 1) (n + 1 + 1 + 1) 0 q to x (Int32.ofNat a) (Int32.ofNat b) (q / 8) (Int32.ofNat 2) (Int32.ofNat (eD E (q / 8))) (Int32.ofNat 0) z = _ from e1) ?_
      refine Eq.trans (show fX11_putFrame_106 (n + 1 + 1 + 1) (n + 1 + 1) 0 q to x (Int32.ofNat a) (Int32.ofNat b) (q / 8) (Int32.ofNat 2) (Int32.ofNat (3 * eD E (q / 8))) (Int32.ofNat 1) z1 = _ from e2) ?_
      show fX11_putFrame_106b (n + 1 + 1 + 1) _ 0 q to x (Int32.ofNat a) (Int32.ofNat b) (q / 8) (Int32.ofNat 2) _ (Int32.ofNat 2) z2 = _
      unfold fX11_putFrame_106b
      rw [if_pos (Int32.le_refl _)]
    · show zQq z2 (gF g ++ nArr 2 (eN E) (eD E (q / 8)) (nQ q D to a b)) X
      have en : nArr 2 (eN E) (eD E (q / 8)) (nQ q D to a b) = [(eN E + eD E (q / 8), nQ q D to a b), (eN E + 3 * eD E (q / 8), nQ q D to a b)] := rfl
      rw [en]
      have := s1
      rw [List.append_assoc] at this
      exact this
  · rw [if_pos c2, if_neg c2]
    by_cases hr : 512 < (gF g).length + 1
    · rw [if_pos hr]
      exact noroom 1 hr (by omega)
    rw [if_neg hr]
    unfold fX11_putFrame_60
    rw [hfl, show (1 : Int32) = Int32.ofNat 1 from rfl, zo_add, show (512 : Int32) = Int32.ofNat 512 from rfl, if_pos (by rw [zo_le (by omega) (by omega)]; omega), g1]
    by_cases c3 : f = 3
    · rw [if_neg (fun q => q c3)]
      have e4 : (4 : Int32) * Int32.ofNat (eD E (q / 8)) = Int32.ofNat (4 * eD E (q / 8)) := (Int32.ofNat_mul 4 _).symm
      rw [e4]
      have en : nArr f (eN E) (eD E (q / 8)) (nQ q D to a b) = [(eN E + 4 * eD E (q / 8), nQ q D to a b)] := by
        unfold nArr
        rw [if_neg c1, if_neg c2, if_pos c3]
      rw [en]
      exact one _ (by omega) (by omega)
    · rw [if_pos c3]
      have en : nArr f (eN E) (eD E (q / 8)) (nQ q D to a b) = [(eN E + eD E (q / 8), nQ q D to a b)] := by
        unfold nArr
        rw [if_neg c1, if_neg c2, if_neg c3]
      rw [en]
      exact one _ (by omega) (by omega)
theorem zc_putFrame {z : St} {T : Tp} {E : Ev} {g : Sg} {X : List Nat} {q x a b N : Nat} {to : Int32} {D : Dg} (hT : zTC z T) (hc : zTc T) (hE : zEc z T E) (hw : zEw T E) (hg : zNd z T g X) (hq : tv T q) (hx : x < 2 ∨ 515 ≤ x ∨ x ∈ X) (hD : zPC 11 z x D) (hDw : zDw D) (hab : a + b ≤ dl D) (hb : 1 ≤ b) (hX : X.length ≤ 1) (hN : 3 < N) :
    ∃ z', fX11_putFrame N 0 q to x (Int32.ofNat a) (Int32.ofNat b) z = some (0, z') ∧ zNd z' T (nPut E g q (nQ q D to a b)) X ∧ zKp X z z' := by
  obtain ⟨h1, h2, h3⟩ := hg
  obtain ⟨q0, q1, q2, q3, q4⟩ := hT.2.2.2 _ hq
  have hup := (hE.2 _ hq.1).2.2
  unfold fX11_putFrame
  rw [zl_e, q1, zd_e, zl_e]
  have f3 : zFr 0x20000000000000000000000000000000000000000000000000000000000000000000000000000000000 z (zsI z 5 9 (q / 8) (zgI z 5 9 (q / 8) + 1)) := zFr_I (zFr_rf _ _) (by decide)
  have k3 : zKp X z (zsI z 5 9 (q / 8) (zgI z 5 9 (q / 8) + 1)) := zKp_I (by decide)
  have d3 : zNd (zsI z 5 9 (q / 8) (zgI z 5 9 (q / 8) + 1)) T (sP g (zupd (gP g) (q / 8) (gP g (q / 8) + 1))) X := by
    refine ⟨zTr_fr f3 (by decide) h1, ⟨fun n hn => ?_, h2.2.1, ?_⟩, zQq_fr f3 (by decide) h3⟩
    · show zgI (zsI z 5 9 (q / 8) (zgI z 5 9 (q / 8) + 1)) 5 9 n = zupd (gP g) (q / 8) (gP g (q / 8) + 1) n
      rw [zgI_sI, h2.1 _ hq.1]
      unfold zupd
      by_cases c : n = q / 8
      · rw [if_pos ⟨rfl, rfl, c⟩, if_pos c]
      · rw [if_neg (fun y => c y.2.2), if_neg c]
        exact h2.1 n hn
    · rw [zgI_sI, if_neg (by simp)]; exact h2.2.2
  have t3 := zTC_fr f3 (by decide) hT
  have e3 := zEc_fr f3 (by decide) hE
  revert f3 k3 d3 t3 e3
  generalize zsI z 5 9 (q / 8) (zgI z 5 9 (q / 8) + 1) = z3
  intro f3 k3 d3 t3 e3
  rw [(e3.2 _ hq.1).2.2]
  by_cases c : eU E (q / 8) = false
  · rw [c, if_neg (by simp [zbi])]
    refine ⟨z3, rfl, ?_, k3⟩
    unfold nPut
    rw [if_pos c]
    exact d3
  · have ct : eU E (q / 8) = true := by simpa using c
    rw [ct, if_pos (by decide)]
    obtain ⟨z6, n1, n2, n3, n4⟩ := zc_nextFate (N := N) d3.1 hq.1
    have f6 : zFr mX5_nextFate z3 z6 := wX5_nextFate (Nat.and_self _) (zFr_rf _ _) _ _ n1
    have k6 : zKp X z3 z6 := fun u _ => ⟨fun j => n3 7 j u (by decide), fun i => n4 125 u i⟩
    have d6 : zNd z6 T (sT (sP g (zupd (gP g) (q / 8) (gP g (q / 8) + 1))) (zupd (gT g) (q / 8) (gT g (q / 8)).tail)) X := ⟨n2, zCt_fr (g := sP g (zupd (gP g) (q / 8) (gP g (q / 8) + 1))) f6 (by decide) d3.2.1, zQq_fr f6 (by decide) d3.2.2⟩
    have t6 := zTC_fr f6 (by decide) t3
    have e6 := zEc_fr f6 (by decide) e3
    have k06 := zKp_tr k3 k6
    have hh : (gT (sP g (zupd (gP g) (q / 8) (gP g (q / 8) + 1))) (q / 8)).headD 0 = (gT g (q / 8)).headD 0 := rfl
    rw [n1, zc_e, hh]
    unfold nPut nPut3
    rw [if_neg c]
    by_cases c0 : (gT g (q / 8)).headD 0 = 0
    · rw [if_pos c0, if_pos c0]
      obtain ⟨z', m1, m2, m3, -⟩ := zc_putFrame42 (N := N) (to := to) (f := (gT g (q / 8)).headD 0) t6 hc e6 hw d6 hq hx (zKp_PC k06 hx hD) hDw hab hb hX hN
      exact ⟨z', m1, m2, zKp_tr k06 m3⟩
    · rw [if_neg c0, if_neg c0]
      unfold fX11_stir
      rw [zl_e, zc_e, e6.1]
      have f7 : zFr 0x2000000000000000000000000000000000000000000000000000000000000000000000000000000000000000000000000000000000000000000000000000000000000000000000000000000000000000000000000000000000 z6 (zsI z6 11 5 0 (Int32.ofNat (eN E))) := zFr_I (zFr_rf _ _) (by decide)
      have k7 := zKp_tr k06 (zKp_I (X := X) (z := z6) (k := 11) (j := 5) (o := 0) (v := Int32.ofNat (eN E)) (by decide))
      obtain ⟨z', m1, m2, m3, -⟩ := zc_putFrame42 (N := N) (to := to) (f := (gT g (q / 8)).headD 0) (zTC_fr f7 (by decide) t6) hc (zEc_fr f7 (by decide) e6) hw (zNd_now d6) hq hx (zKp_PC k7 hx hD) hDw hab hb hX hN
      exact ⟨z', m1, m2, zKp_tr k7 m3⟩
