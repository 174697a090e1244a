/-! the model: a frame is put on a net -/
def mMp : Nat := 0x29b700000000000000000000000000000208840000000000000000000000000000000000000000000000000000000000000000000000000000000000000000000000000000000000000000000000000000000000000000000000000000000000000000000000000000000000000000000000000000000000000000000000000000000000000000000000000000000000000000000000000000000000000000000000000000000000000000
theorem zMp_fr {M : Nat} {z z' : St} {H TS TA TB : List Nat} (f : zFr M z z') (hm : mMp &&& M = 0) (h : zMp z H TS TA TB) : zMp z' H TS TA TB := by
  have gI : ∀ k j o, k < 100 → mMp.testBit (64 * k + j) = true → zgI z' k j o = zgI z k j o := fun k j o hk hb => zFr_gI f hk (ztf hm hb) o
  have gA' : ∀ k o i, mMp.testBit (1180 + k) = true → zgA z' k o i = zgA z k o i := fun k o i hb => zFr_gA f (ztf hm hb) o i
  have e1 : mgs z' = mgs z := by
    funext d; unfold mgs md; rw [gA' 172 _ _ (by decide)]
  have e2 : mga z' = mga z := by
    funext d; unfold mga md; rw [gA' 172 _ _ (by decide)]
  have e3 : ∀ L, zbks z' L = zbks z L := fun L => zbks_cg (fun _ _ => Iff.rfl) (fun s _ _ => gA' 174 _ _ (by decide))
  unfold zMp
  rw [e1, e2, e3]
  unfold md msg
  simp (disch := decide) only [gI, gA']
  exact h
theorem zMp_len {w : St} {H TS TA TB : List Nat} (h : zMp w H TS TA TB) {d : Nat} (hd : d ∈ H) : d < 2400 := h.1.2.1 d hd
/-- what a frame carries in the model: an asking, an answer, or a datagram that is held -/
def zPm (w : St) (T : Tp) (K : Int32 → Int32 → Int32 → Prop) (X : List Nat) (kind addr dv : Int32) (D : Dg) : Prop :=
  (D.1 2 = 5 ∧ kind = 0 ∧ addr = D.1 1 ∧ dv = -1) ∨ (D.1 2 = 6 ∧ kind = 1 ∧ addr = 0 ∧ dv = -1) ∨ (¬ D.1 2 = 5 ∧ ¬ D.1 2 = 6 ∧ kind = 2 ∧ addr = 0 ∧ ∃ d, d ∈ X ∧ dv = Int32.ofNat d ∧ zMD w T K d D)
/-- what stays of the datagrams that are held -/
def zKm (H : List Nat) (w w' : St) : Prop := (∀ d k, d ∈ H → k < 18 → md w' d k = md w d k) ∧ (∀ k i, zgA w' 174 k i = zgA w 174 k i) ∧ (∀ k i, zgA w' 178 k i = zgA w 178 k i) ∧ ∀ k o i, zgL w' k o i = zgL w k o i
theorem zKm_rf (H : List Nat) (w : St) : zKm H w w := ⟨fun _ _ _ _ => rfl, fun _ _ => rfl, fun _ _ => rfl, fun _ _ _ => rfl⟩
theorem zKm_tr {H : List Nat} {a b c : St} (h1 : zKm H a b) (h2 : zKm H b c) : zKm H a c := ⟨fun d k hd hk => (h2.1 d k hd hk).trans (h1.1 d k hd hk), fun k i => (h2.2.1 k i).trans (h1.2.1 k i), fun k i => (h2.2.2.1 k i).trans (h1.2.2.1 k i), fun k o i => (h2.2.2.2 k o i).trans (h1.2.2.2 k o i)⟩
theorem zKm_sub {H H' : List Nat} {a b : St} (hs : ∀ d, d ∈ H' → d ∈ H) (h : zKm H a b) : zKm H' a b := ⟨fun d k hd hk => h.1 d k (hs d hd) hk, h.2⟩
theorem zKm_MD {H : List Nat} {w w' : St} {T : Tp} {K : Int32 → Int32 → Int32 → Prop} {d : Nat} {D : Dg} (k : zKm H w w') (hd : d ∈ H) (h : zMD w T K d D) : zMD w' T K d D := zMD_cg h.1.1 (fun j hj => k.1 d j hd hj) k.2.1 (fun a b => k.2.2.2 175 a b) k.2.2.1 rfl (fun _ _ => rfl) h
theorem zKm_fr {M : Nat} {H : List Nat} {w w' : St} (f : zFr M w w') (hm : 0x4d00000000000000000000000000000000000000000000000000000000000000000000000000000000000000000000000000000000000000000000000000000000000000000000000000000000000000000000000000000000000000000000000000000000000000000000000000000000000000000000000000000000000000000000000000000000000000000000000000000000000000000000000000000000000000000000000000 &&& M = 0) (hL : ∀ k o i, zgL w' k o i = zgL w k o i) : zKm H w w' := ⟨fun d k _ _ => zFr_gA f (ztf hm (by decide)) 0 _, fun k i => zFr_gA f (ztf hm (by decide)) k i, fun k i => zFr_gA f (ztf hm (by decide)) k i, hL⟩
theorem hold_app (X : List Nat) (ms : List (Option Nat)) (mw : Nat → List Nat) (c : Nat) : (c :: hold X ms mw).Perm (hold X (ms ++ [some c]) mw) := by
  unfold hold
  rw [List.filterMap_append]
  have e : ([some c] : List (Option Nat)).filterMap id = [c] := rfl
  rw [e, List.append_assoc]
  have p1 : (c :: (X ++ (ms.filterMap id ++ (List.range 192).flatMap mw))).Perm (X ++ c :: (ms.filterMap id ++ (List.range 192).flatMap mw)) := List.perm_middle.symm
  have p2 : (c :: (ms.filterMap id ++ (List.range 192).flatMap mw)).Perm (ms.filterMap id ++ c :: (List.range 192).flatMap mw) := List.perm_middle.symm
  exact p1.trans (List.Perm.append_left X p2)
theorem hold_app0 (X : List Nat) (ms : List (Option Nat)) (mw : Nat → List Nat) : hold X (ms ++ [none]) mw = hold X ms mw := by
  unfold hold
  rw [List.filterMap_append]
  have e : ([none] : List (Option Nat)).filterMap id = [] := rfl
  rw [e, List.append_nil]
theorem zmu7 {a : Nat} : ((7 : Int32) * Int32.ofNat a) = Int32.ofNat (7 * a) := (Int32.ofNat_mul 7 a).symm
def mFr : Nat := 0x1009100000000000000000000000000008000040000000000000000000000000000000000000000000000000000000000000000000000000000000000000000000000000000000000000000000000000000000000000000000000000000000000000000000000000000000000000000000000000000000000000000000000000000000000000000000000000000000000000000000000000000000000000000000000000000000000000000
theorem zm_frame {w : St} {T : Tp} {K : Int32 → Int32 → Int32 → Prop} {fr : List Fr} {g : Sg} {ms : List (Option Nat)} {mw : Nat → List Nat} {X TS TA TB : List Nat} {q due N : Nat} {to kind addr dv : Int32} {D : Dg} (hT : zTM w T) (hc : zTc T) (hq : tv T q) (hF : zFm w T K fr ms) (hW : zWm w T K g mw) (hP : zMp w (hold X ms mw) TS TA TB) (hfl : fr.length < 512) (hHl : (hold X ms mw).length < 2400) (h12 : D.1 12 = Int32.ofNat (q / 8)) (h13 : D.1 13 = Int32.ofNat (q % 8)) (h11 : D.1 11 = to) (hm : zPm w T K X kind addr dv D) (hN : 18 < N) :
    ∃ w' ms', fX19_frame N 0 q to kind addr dv (Int32.ofNat due) w = some (0, w') ∧ zFm w' T K (fr ++ [(due, D)]) ms' ∧ zWm w' T K g mw ∧ zMp w' (hold X ms' mw) TS TA TB ∧ zKm (hold X ms mw) w w' ∧ zFr mFr w w' := by
  obtain ⟨f1, f2, f3, f4⟩ := hF
  obtain ⟨t0, t2, t1, t3⟩ := hT.2.2.2 _ hq
  have tn' := (hT.2.1.1 _ hq.1).2.1
  let F := fr.length
  let w5 : St := zsA (zsA (zsA (zsA (zsA w 188 0 (7 * F) (Int32.ofNat (q / 8))) 188 0 (7 * F + 1) (Int32.ofNat (q % 8))) 188 0 (7 * F + 2) to) 188 0 (7 * F + 3) kind) 188 0 (7 * F + 4) addr
  have r5 : zFr 0x1000000000000000000000000000000000000000000000000000000000000000000000000000000000000000000000000000000000000000000000000000000000000000000000000000000000000000000000000000000000000000000000000000000000000000000000000000000000000000000000000000000000000000000000000000000000000000000000000000000000000000000000000000000000000000000000000000000 w w5 := zFr_A (zFr_A (zFr_A (zFr_A (zFr_A (zFr_rf _ _) (by decide)) (by decide)) (by decide)) (by decide)) (by decide)
  have start : fX19_frame N 0 q to kind addr dv (Int32.ofNat due) w = (if ¬ dv = (-1 : Int32) then (zc (fX19_copyOf N 0 dv w5) fun r15 z16 => fX19_frame_91 N 0 (Int32.ofNat due) (Int32.ofNat (7 * F)) 0 (Int32.ofNat (7 * F + 5)) r15 z16) else (fX19_frame_91 N 0 (Int32.ofNat due) (Int32.ofNat (7 * F)) 0 (Int32.ofNat (7 * F + 5)) (-1 : Int32) w5)) := by
    unfold fX19_frame
    rw [f2, zmu7, zl_e, zl_e, t2, zd_e, zkk (by omega) (by omega), zl_e, tn', zoC (by omega)]
    have a3 : zgI (zsA w 188 0 (7 * F) (Int32.ofNat (q / 8))) 18 3 q = Int32.ofNat (q % 8) := t3
    rw [show (1 : Int32) = Int32.ofNat 1 from rfl, zo_add, zkk (by omega) (by omega), a3, zl_e, zoC (by omega), show (2 : Int32) = Int32.ofNat 2 from rfl, zo_add, zkk (by omega) (by omega), zl_e, zoC (by omega), show (3 : Int32) = Int32.ofNat 3 from rfl, zo_add, zkk (by omega) (by omega), zl_e, zoC (by omega), show (4 : Int32) = Int32.ofNat 4 from rfl, zo_add, zkk (by omega) (by omega), zl_e, zoC (by omega), show (5 : Int32) = Int32.ofNat 5 from rfl, zo_add]
  -- the end of it, behind the copy
  have fin : ∀ (w6 : St) (v : Int32), zgI w6 19 23 0 = Int32.ofNat F → ∃ w', fX19_frame_91 N 0 (Int32.ofNat due) (Int32.ofNat (7 * F)) 0 (Int32.ofNat (7 * F + 5)) v w6 = some (0, w') ∧ w' = zsI (zsA (zsA w6 188 0 (7 * F + 5) v) 188 0 (7 * F + 6) (Int32.ofNat due)) 19 23 0 (Int32.ofNat (F + 1)) := by
    intro w6 v h23
    unfold fX19_frame_91
    rw [zkk (by omega) (by omega), zl_e, zoC (by omega), show (6 : Int32) = Int32.ofNat 6 from rfl, zo_add, zkk (by omega) (by omega), zl_e, zoC (by omega), zl_e]
    have : zgI (zsA (zsA w6 188 0 (7 * F + 5) v) 188 0 (7 * F + 6) (Int32.ofNat due)) 19 23 0 = Int32.ofNat F := h23
    rw [this, zo_i1]
    exact ⟨_, rfl, rfl⟩
  -- what the row of frames holds then
  have rowOld : ∀ (w6 : St) (v : Int32), (∀ k, zgA w6 188 0 k = zgA w5 188 0 k) → ∀ k, k < 7 * F → zgA (zsI (zsA (zsA w6 188 0 (7 * F + 5) v) 188 0 (7 * F + 6) (Int32.ofNat due)) 19 23 0 (Int32.ofNat (F + 1))) 188 0 k = zgA w 188 0 k := by
    intro w6 v h6 k hk
    rw [zgA_sI, zA_if, if_neg (by omega), zA_if, if_neg (by omega), h6]
    show zgA (zsA (zsA (zsA (zsA (zsA w 188 0 (7 * F) _) 188 0 (7 * F + 1) _) 188 0 (7 * F + 2) _) 188 0 (7 * F + 3) _) 188 0 (7 * F + 4) _) 188 0 k = _
    rw [zA_if, if_neg (by omega), zA_if, if_neg (by omega), zA_if, if_neg (by omega), zA_if, if_neg (by omega), zA_if, if_neg (by omega)]
  have rowNew : ∀ (w6 : St) (v : Int32), (∀ k, zgA w6 188 0 k = zgA w5 188 0 k) → ∀ w', w' = zsI (zsA (zsA w6 188 0 (7 * F + 5) v) 188 0 (7 * F + 6) (Int32.ofNat due)) 19 23 0 (Int32.ofNat (F + 1)) → zgA w' 188 0 (7 * F) = Int32.ofNat (q / 8) ∧ zgA w' 188 0 (7 * F + 1) = Int32.ofNat (q % 8) ∧ zgA w' 188 0 (7 * F + 2) = to ∧ zgA w' 188 0 (7 * F + 3) = kind ∧ zgA w' 188 0 (7 * F + 4) = addr ∧ zgA w' 188 0 (7 * F + 5) = v ∧ zgA w' 188 0 (7 * F + 6) = Int32.ofNat due := by
    intro w6 v h6 w' e
    subst e
    refine ⟨?_, ?_, ?_, ?_, ?_, ?_, ?_⟩
    · rw [zgA_sI, zA_if, if_neg (by omega), zA_if, if_neg (by omega), h6]
      show zgA (zsA (zsA (zsA (zsA (zsA w 188 0 (7 * F) _) 188 0 (7 * F + 1) _) 188 0 (7 * F + 2) _) 188 0 (7 * F + 3) _) 188 0 (7 * F + 4) _) 188 0 _ = _
      rw [zA_if, if_neg (by omega), zA_if, if_neg (by omega), zA_if, if_neg (by omega), zA_if, if_neg (by omega), zA_if, if_pos rfl]
    · rw [zgA_sI, zA_if, if_neg (by omega), zA_if, if_neg (by omega), h6]
      show zgA (zsA (zsA (zsA (zsA (zsA w 188 0 (7 * F) _) 188 0 (7 * F + 1) _) 188 0 (7 * F + 2) _) 188 0 (7 * F + 3) _) 188 0 (7 * F + 4) _) 188 0 _ = _
      rw [zA_if, if_neg (by omega), zA_if, if_neg (by omega), zA_if, if_neg (by omega), zA_if, if_pos rfl]
    · rw [zgA_sI, zA_if, if_neg (by omega), zA_if, if_neg (by omega), h6]
      show zgA (zsA (zsA (zsA (zsA (zsA w 188 0 (7 * F) _) 188 0 (7 * F + 1) _) 188 0 (7 * F + 2) _) 188 0 (7 * F + 3) _) 188 0 (7 * F + 4) _) 188 0 _ = _
      rw [zA_if, if_neg (by omega), zA_if, if_neg (by omega), zA_if, if_pos rfl]
    · rw [zgA_sI, zA_if, if_neg (by omega), zA_if, if_neg (by omega), h6]
      show zgA (zsA (zsA (zsA (zsA (zsA w 188 0 (7 * F) _) 188 0 (7 * F + 1) _) 188 0 (7 * F + 2) _) 188 0 (7 * F + 3) _) 188 0 (7 * F + 4) _) 188 0 _ = _
      rw [zA_if, if_neg (by omega), zA_if, if_pos rfl]
    · rw [zgA_sI, zA_if, if_neg (by omega), zA_if, if_neg (by omega), h6]
      show zgA (zsA (zsA (zsA (zsA (zsA w 188 0 (7 * F) _) 188 0 (7 * F + 1) _) 188 0 (7 * F + 2) _) 188 0 (7 * F + 3) _) 188 0 (7 * F + 4) _) 188 0 _ = _
      rw [zA_if, if_pos rfl]
    · rw [zgA_sI, zA_if, if_neg (by omega), zA_if, if_pos rfl]
    · rw [zgA_sI, zA_if, if_pos rfl]
  -- the relation then
  have mkF : ∀ (w6 w' : St) (v : Int32) (m : Option Nat), (∀ k, zgA w6 188 0 k = zgA w5 188 0 k) → w' = zsI (zsA (zsA w6 188 0 (7 * F + 5) v) 188 0 (7 * F + 6) (Int32.ofNat due)) 19 23 0 (Int32.ofNat (F + 1)) → (∀ d D, d ∈ hold X ms mw → zMD w T K d D → zMD w' T K d D) → (∀ p, zgI w' 18 12 p = zgI w 18 12 p ∧ (∀ i, zgA w' 170 p i = zgA w 170 p i) ∧ ∀ i, zgA w' 171 p i = zgA w 171 p i) → ((D.1 2 = 5 ∧ m = none ∧ kind = 0 ∧ addr = D.1 1 ∧ v = -1) ∨ (D.1 2 = 6 ∧ m = none ∧ kind = 1 ∧ addr = 0 ∧ v = -1) ∨ (¬ D.1 2 = 5 ∧ ¬ D.1 2 = 6 ∧ ∃ d, m = some d ∧ kind = 2 ∧ addr = 0 ∧ v = Int32.ofNat d ∧ zMD w' T K d D)) → zFm w' T K (fr ++ [(due, D)]) (ms ++ [m]) ∧ zWm w' T K g mw := by
    intro w6 w' v m h6 e hMD hR hk
    have old := rowOld w6 v h6
    rw [← e] at old
    obtain ⟨n0, n1, n2, n3, n4, n5, n6⟩ := rowNew w6 v h6 w' e
    have h23 : zgI w' 19 23 0 = Int32.ofNat (F + 1) := by rw [e, zgI_sI, if_pos ⟨rfl, rfl, rfl⟩]
    refine ⟨⟨by simp [f1], by rw [h23]; simp; rfl, by simp; omega, fun i f m' hf hm' => ?_⟩, fun p hp => ?_, hW.2⟩
    · rw [List.getElem?_append] at hf hm'
      by_cases c : i < F
      · rw [if_pos c] at hf
        rw [if_pos (by rw [f1]; exact c)] at hm'
        obtain ⟨⟨a0, a1, a2, a6⟩, b⟩ := f4 i f m' hf hm'
        refine ⟨⟨by rw [old _ (by omega)]; exact a0, by rw [old _ (by omega)]; exact a1, by rw [old _ (by omega)]; exact a2, by rw [old _ (by omega)]; exact a6⟩, ?_⟩
        rw [old _ (by omega), old _ (by omega), old _ (by omega)]
        rcases b with b | b | ⟨b1, b2, d, b3, b4, b5, b6, b7⟩
        · exact Or.inl b
        · exact Or.inr (Or.inl b)
        · exact Or.inr (Or.inr ⟨b1, b2, d, b3, b4, b5, b6, hMD d _ (hold_mem.mpr (Or.inr (Or.inl (by rw [← b3]; exact List.mem_of_getElem? hm')))) b7⟩)
      · rw [if_neg c] at hf
        rw [if_neg (by rw [f1]; exact c), f1] at hm'
        have hi0 : i - F = 0 := by
          have := (List.getElem?_eq_some_iff.mp hf).1
          simpa using this
        have hiF : i = F := by omega
        rw [show i - fr.length = 0 from hi0] at hf hm'
        obtain rfl : (due, D) = f := by simpa using hf
        obtain rfl : m = m' := by simpa using hm'
        subst hiF
        refine ⟨⟨n0.trans h12.symm, n1.trans h13.symm, n2.trans h11.symm, n6⟩, ?_⟩
        rw [n3, n4, n5]
        rcases hk with ⟨k1, k2, k3, k4, k5⟩ | ⟨k1, k2, k3, k4, k5⟩ | ⟨k1, k2, d, k3, k4, k5, k6, k7⟩
        · exact Or.inl ⟨k1, k2, k3, k4, k5⟩
        · exact Or.inr (Or.inl ⟨k1, k2, k3, k4, k5⟩)
        · exact Or.inr (Or.inr ⟨k1, k2, d, k3, k4, k5, k6, k7⟩)
    · obtain ⟨r1, r2, r3⟩ := hR p
      exact zWqm_cg r1 r2 r3 (fun d D hd => hMD d D (hold_mem.mpr (Or.inr (Or.inr ⟨p, tv_192 hc hp, hd⟩)))) (hW.1 p hp)
  rw [start]
  have h23 : zgI w5 19 23 0 = Int32.ofNat F := f2
  have m0 : mMp &&& 0x1000000000000000000000000000000000000000000000000000000000000000000000000000000000000000000000000000000000000000000000000000000000000000000000000000000000000000000000000000000000000000000000000000000000000000000000000000000000000000000000000000000000000000000000000000000000000000000000000000000000000000000000000000000000000000000000000000000 = 0 := by decide
  have hP5 : zMp w5 (hold X ms mw) TS TA TB := zMp_fr r5 m0 hP
  have k5 : zKm (hold X ms mw) w w5 := zKm_fr r5 (by decide) (fun _ _ _ => rfl)
  have note : ∀ kk : D.1 2 = 5 ∧ kind = 0 ∧ addr = D.1 1 ∧ dv = -1 ∨ D.1 2 = 6 ∧ kind = 1 ∧ addr = 0 ∧ dv = -1, ∃ w' ms', (if ¬ dv = (-1 : Int32) then (zc (fX19_copyOf N 0 dv w5) fun r15 z16 => fX19_frame_91 N 0 (Int32.ofNat due) (Int32.ofNat (7 * F)) 0 (Int32.ofNat (7 * F + 5)) r15 z16) else (fX19_frame_91 N 0 (Int32.ofNat due) (Int32.ofNat (7 * F)) 0 (Int32.ofNat (7 * F + 5)) (-1 : Int32) w5)) = some (0, w') ∧ zFm w' T K (fr ++ [(due, D)]) ms' ∧ zWm w' T K g mw ∧ zMp w' (hold X ms' mw) TS TA TB ∧ zKm (hold X ms mw) w w' ∧ zFr mFr w w' := by
    intro kk
    have hdv : dv = -1 := by rcases kk with k | k; exact k.2.2.2; exact k.2.2.2
    rw [if_neg (fun y => y hdv)]
    obtain ⟨w', e1, e2⟩ := fin w5 (-1) h23
    have r6 : zFr 0x1000000000000000000000000000000008000000000000000000000000000000000000000000000000000000000000000000000000000000000000000000000000000000000000000000000000000000000000000000000000000000000000000000000000000000000000000000000000000000000000000000000000000000000000000000000000000000000000000000000000000000000000000000000000000000000000000000000 w w' := by
      rw [e2]
      exact zFr_I (zFr_A (zFr_A (zFr_w r5 (by decide)) (by decide)) (by decide)) (by decide)
    have k6 : zKm (hold X ms mw) w w' := zKm_fr r6 (by decide) (fun _ _ _ => by rw [e2]; rfl)
    obtain ⟨g1, g2⟩ := mkF w5 w' (-1) none (fun _ => rfl) e2 (fun d D hd => zKm_MD k6 hd) (fun p => ⟨zFr_gI r6 (by decide) (by decide) p, fun i => zFr_gA r6 (by decide) p i, fun i => zFr_gA r6 (by decide) p i⟩) (by
      rcases kk with k | k
      · exact Or.inl ⟨k.1, rfl, k.2.1, k.2.2.1, rfl⟩
      · exact Or.inr (Or.inl ⟨k.1, rfl, k.2.1, k.2.2.1, rfl⟩))
    exact ⟨w', ms ++ [none], e1, g1, g2, by rw [hold_app0]; exact zMp_fr r6 (by decide) hP, k6, zFr_w r6 (by decide)⟩
  rcases hm with k | k | ⟨n5, n6, kk, ka, d, hdX, hdv, hMDd⟩
  · exact note (Or.inl k)
  · exact note (Or.inr k)
  · have hd24 := hMDd.1.1
    rw [if_pos (by rw [hdv]; exact zo_ne1 (by omega)), hdv]
    have hdH : d ∈ hold X ms mw := hold_mem.mpr (Or.inl hdX)
    obtain ⟨w6, c, c1, c2, c3, c4, c5, c6, c7, c8, c9⟩ := zm_copyOf (N := N) hP5 hdH hHl hN
    rw [c1, zc_e]
    obtain ⟨w', e1, e2⟩ := fin w6 (Int32.ofNat c) (by rw [c8 19 23 0 (by simp)]; exact h23)
    have f6 : zFr 0x9100000000000000000000000000000000040000000000000000000000000000000000000000000000000000000000000000000000000000000000000000000000000000000000000000000000000000000000000000000000000000000000000000000000000000000000000000000000000000000000000000000000000000000000000000000000000000000000000000000000000000000000000000000000000000000000000000 w5 w6 := zFr_w (wX19_copyOf (Nat.and_self _) (zFr_rf _ _) _ _ c1) (by decide)
    have f7 : zFr 0x1000000000000000000000000000000008000000000000000000000000000000000000000000000000000000000000000000000000000000000000000000000000000000000000000000000000000000000000000000000000000000000000000000000000000000000000000000000000000000000000000000000000000000000000000000000000000000000000000000000000000000000000000000000000000000000000000000000 w6 w' := by
      rw [e2]
      exact zFr_I (zFr_A (zFr_A (zFr_rf _ _) (by decide)) (by decide)) (by decide)
    have fall : zFr mFr w w' := zFr_tr (zFr_w r5 (by decide)) (zFr_tr (zFr_w f6 (by decide)) (zFr_w f7 (by decide)))
    have mdw : ∀ e k, md w' e k = md w6 e k := fun e k => zFr_gA f7 (by decide) 0 _
    have mdc : ∀ k, k < 18 → md w' c k = md w d k := fun k hk => (mdw c k).trans ((c5 k hk).trans (k5.1 d k hdH hk))
    have L' : ∀ k o i, zgL w' k o i = zgL w k o i := fun k o i => by rw [e2]; exact c9 k o i
    have A174 : ∀ k i, zgA w' 174 k i = zgA w 174 k i := fun k i => zFr_gA fall (by decide) k i
    have A178 : ∀ k i, zgA w' 178 k i = zgA w 178 k i := fun k i => zFr_gA fall (by decide) k i
    have k6 : zKm (hold X ms mw) w w' := ⟨fun e k he hk => (mdw e k).trans ((c6 e k (fun y => c3 (by rw [← y]; exact he)) hk).trans (k5.1 e k he hk)), A174, A178, L'⟩
    obtain ⟨g1, g2⟩ := mkF w6 w' (Int32.ofNat c) (some c) (fun k => c7 188 0 k (by simp) (by simp) (by simp)) e2 (fun d D hd => zKm_MD k6 hd) (fun p => ⟨zFr_gI fall (by decide) (by decide) p, fun i => zFr_gA fall (by decide) p i, fun i => zFr_gA fall (by decide) p i⟩) (Or.inr (Or.inr ⟨n5, n6, c, rfl, kk, ka, rfl, zMD_cg c2 mdc A174 (fun a b => L' 175 a b) A178 rfl (fun _ _ => rfl) hMDd⟩))
    exact ⟨w', ms ++ [some c], e1, g1, g2, zMp_perm (hold_app X ms mw c) (zMp_fr f7 (by decide) c4), k6, fall⟩
/-- what belongs to the network in the model, but frames' count, schedules and counts -/
def zNm (w : St) (T : Tp) (K : Int32 → Int32 → Int32 → Prop) (g : Sg) (X TS TA TB : List Nat) : Prop := ∃ ms mw, zFm w T K (gF g) ms ∧ zWm w T K g mw ∧ zMp w (hold X ms mw) TS TA TB
theorem zNm_fr {M : Nat} {w w' : St} {T : Tp} {K : Int32 → Int32 → Int32 → Prop} {g : Sg} {X TS TA TB : List Nat} (f : zFr M w w') (hm : (mMp ||| 0x10048c0000000000000000000000000008000000000000000001000000000000000000000000000000000000000000000000000000000000000000000000000000000000000000000000000000000000000000000000000000000000000000000000000000000000000000000000000000000000000000000000000000000000000000000000000000000000000000000000000000000000000000000000000000000000000000000000000) &&& M = 0) (hc : zTc T) (hL : ∀ k o i, zgL w' k o i = zgL w k o i) (h : zNm w T K g X TS TA TB) : zNm w' T K g X TS TA TB := by
  obtain ⟨ms, mw, h1, h2, h3⟩ := h
  have tb : ∀ c, (mMp ||| 0x10048c0000000000000000000000000008000000000000000001000000000000000000000000000000000000000000000000000000000000000000000000000000000000000000000000000000000000000000000000000000000000000000000000000000000000000000000000000000000000000000000000000000000000000000000000000000000000000000000000000000000000000000000000000000000000000000000000000).testBit c = true → M.testBit c = false := fun c hc => ztf hm hc
  have kk : zKm (hold X ms mw) w w' := ⟨fun d k _ _ => zFr_gA f (tb _ (by decide)) 0 _, fun k i => zFr_gA f (tb _ (by decide)) k i, fun k i => zFr_gA f (tb _ (by decide)) k i, hL⟩
  have hm2 : mMp &&& M = 0 := by
    apply Nat.eq_of_testBit_eq
    intro i
    rw [Nat.zero_testBit, Nat.testBit_and]
    cases hb : mMp.testBit i with
    | false => rfl
    | true =>
      rw [tb i (by rw [Nat.testBit_or, hb]; rfl)]
      rfl
  refine ⟨ms, mw, zFm_cg (fun k => zFr_gA f (tb _ (by decide)) 0 k) (zFr_gI f (by decide) (tb _ (by decide)) 0) (fun d D hd => zKm_MD kk (hold_mem.mpr (Or.inr (Or.inl hd)))) h1, ⟨fun q hq => zWqm_cg (zFr_gI f (by decide) (tb _ (by decide)) q) (fun i => zFr_gA f (tb _ (by decide)) q i) (fun i => zFr_gA f (tb _ (by decide)) q i) (fun d D hd => zKm_MD kk (hold_mem.mpr (Or.inr (Or.inr ⟨q, tv_192 hc hq, hd⟩)))) (h2.1 q hq), h2.2⟩, zMp_fr f hm2 h3⟩
