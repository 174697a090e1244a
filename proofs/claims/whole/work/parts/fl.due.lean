/-! all frames that are due: both sides -/
theorem zIp_giveB {z w : St} {T : Tp} {E : Ev} {g : Sg} {Wy : Wyt} {R : Rg} {mk : Nat → Nat} {K : Int32 → Int32 → Int32 → Prop} {XM TS TA TB : List Nat} {x N : Nat} (hp : zIp z w T E g g Wy R mk K [x] XM TS TA TB) :
    ∃ z', fX11_giveBack N 0 x z = some (0, z') ∧ zIp z' w T E g g Wy R mk K [] XM TS TA TB ∧ zFr 0x80000000000000000000000000000000000000000000000000000000000000040000000000000000000000000000000000000000000000000000000000000000000000000000000000000000000000000000000000000000000 z z' ∧ zK7 z z' := by
  obtain ⟨⟨p1, p2, p3, p4, ⟨p5, p6, p7⟩, p8, p9, p10⟩, hR, hW⟩ := hp
  obtain ⟨hTC, hc, hEc, hEw, hNd, hWc, hAc, hHc, hNo, hXl⟩ := p1
  obtain ⟨z1, hz1⟩ : ∃ u, u = zsR (zsR z 7 14 x (zgR z 11 11 0)) 11 11 0 (some x) := ⟨_, rfl⟩
  have f1 : zFr 0x80000000000000000000000000000000000000000000000000000000000000040000000000000000000000000000000000000000000000000000000000000000000000000000000000000000000000000000000000000000000 z z1 := by rw [hz1]; exact zFr_R (zFr_R (zFr_rf _ _) (by decide)) (by decide)
  have I1 : ∀ k j o, zgI z1 k j o = zgI z k j o := fun k j o => by rw [hz1]; rfl
  have A1 : ∀ k o i, zgA z1 k o i = zgA z k o i := fun k o i => by rw [hz1]; rfl
  have q5 := zc_giveB hNd.2.2
  rw [← hz1] at q5
  refine ⟨z1, ?_, ⟨⟨⟨zTC_fr f1 (by decide +kernel) hTC, hc, zEc_fr f1 (by decide) hEc, hEw, ⟨zTr_fr (g := g) f1 (by decide) hNd.1, zCt_fr (g := g) f1 (by decide) hNd.2.1, q5⟩, zWc_fr (g := g) f1 (by decide) (fun u _ => ⟨fun j => I1 7 j u, fun i => A1 125 u i⟩) hWc, zAc_fr (g := g) f1 (by decide) hAc, zHc_fr (g := g) f1 (by decide) hHc, zNo_kp (X := []) (fun u _ => ⟨fun j => I1 7 j u, fun i => A1 125 u i⟩) hNo, by simp⟩, p2, p3, p4, ⟨zWyc_fr f1 (by decide) p5, p6, p7⟩, zRE_fr f1 (by decide) (zFr_rf 0 w) (by decide) p8, zUt_keepC (z5_fr f1 (by decide)) p9, (I1 11 15 0).trans p10⟩, zRg_same hR (fun c => A1 113 c 2), hW⟩, f1, fun v => ⟨fun j _ => I1 7 j v, fun i => A1 125 v i⟩⟩
  unfold fX11_giveBack
  rw [hz1]; rfl
theorem zm_fLen {z w : St} {T : Tp} {E : Ev} {g : Sg} {Wy : Wyt} {R : Rg} {mk : Nat → Nat} {K : Int32 → Int32 → Int32 → Prop} {X XM TS TA TB : List Nat} (hp : zIp z w T E g g Wy R mk K X XM TS TA TB) : zgI w 19 23 0 = Int32.ofNat (gF g).length ∧ (gF g).length ≤ 512 ∧ zgI w 19 24 0 = Int32.ofNat (eN E) := by
  obtain ⟨⟨-, p2, -⟩, -⟩ := hp
  obtain ⟨-, -, hE, -, ⟨-, -, ms, mw, h1, -⟩, -⟩ := p2
  exact ⟨h1.2.1, h1.2.2.1, hE.1⟩
/-- the model goes over frames that are not due -/
theorem zm_scan {z w : St} {T : Tp} {E : Ev} {g : Sg} {Wy : Wyt} {R : Rg} {mk : Nat → Nat} {K : Int32 → Int32 → Int32 → Prop} {TS TA TB : List Nat} {N : Nat} (hp : zIp z w T E g g Wy R mk K [] [] TS TA TB) (hN : 3600 < N) (hE : eN E ≤ 400000) : ∀ (j k n : Nat), k + j ≤ (gF g).length → (∀ i f, k ≤ i → i < k + j → (gF g)[i]? = some f → f.1 ≠ eN E ∧ f.1 ≤ 400200) → fX19_arriveAll_2 N (n + j) 0 (Int32.ofNat k) w = fX19_arriveAll_2 N n 0 (Int32.ofNat (k + j)) w := by
  obtain ⟨h23, hl, h24⟩ := zm_fLen hp
  intro j
  induction j with
  | zero => intro k n _ _; rfl
  | succ j ih =>
    intro k n hkj hno
    have hk : k < (gF g).length := by omega
    obtain ⟨f, hf⟩ : ∃ f, (gF g)[k]? = some f := ⟨_, List.getElem?_eq_getElem hk⟩
    have hdec : gF g = (gF g).take k ++ f :: (gF g).drop (k + 1) := by
      have e1 : (gF g)[k] = f := by
        have := List.getElem?_eq_getElem hk
        rw [hf] at this; exact (Option.some.inj this).symm
      rw [← e1]
      exact (List.take_append_drop k _).symm.trans (by rw [List.drop_eq_getElem_cons hk])
    obtain ⟨w1, kind, addr, dv, XM, -, ⟨-, -, -, -, -, -, q6⟩, -⟩ := zm_takeF (N := N) (E := E) (by obtain ⟨⟨-, p2, -⟩, -⟩ := hp; exact p2) (by simp) hdec hN
    have lk : ((gF g).take k).length = k := by rw [List.length_take]; omega
    rw [lk] at q6
    obtain ⟨n1, n2⟩ := hno k f (by omega) (by omega) hf
    show fX19_arriveAll_2b N (fX19_arriveAll_2 N (n + j)) 0 (Int32.ofNat k) w = _
    unfold fX19_arriveAll_2b
    have e76 : (7 : Int32) * Int32.ofNat k + 6 = Int32.ofNat (7 * k + 6) := by
      rw [show (7 : Int32) * Int32.ofNat k = Int32.ofNat (7 * k) from (Int32.ofNat_mul 7 k).symm]; exact zo_add (7 * k) 6
    rw [h23, if_neg (by rw [zo_le (by omega) (by omega)]; omega), e76, zkk (by omega) (by omega), zoC (by omega), q6, h24, if_neg (by rw [zo_eq (by omega) (by omega)]; exact n1), zl_e, zo_i1]
    rw [show k + (j + 1) = (k + 1) + j by omega]
    exact ih (k + 1) n (by omega) (fun i f a b c => hno i f (by omega) (by omega) c)
/-- one due frame, as what is kept of ends and books sees it -/
def zFrm (T : Tp) (E : Ev) (tl Nm : Nat → Nat) (Wy : Wyt) (u5 : Nat → Prop) (K : Int32 → Int32 → Int32 → Prop) (N : Nat) (z w : St) (g : Sg) (Lp : Nat → List Pe) (z' w' : St) (g' : Sg) (Lp' : Nat → List Pe) : Prop :=
  ∃ A f B x z1 w1 z2 w2, gF g = A ++ f :: B ∧ f.1 = eN E ∧ (zFr 0x6000000000000000000000000000000000000000000000000000000000000000000000000000000000000000000000000000000000000000000000000000000000000000000000000000000100000000000000000000000000000000000000000000000000000000000000000000000000000000000000000000000000000000000000000000000000000000000000000000000000000000000000000000000000000000000 z z1 ∧ zTC z1 T) ∧ zFr 0x1000000000000000000000000000000008000000000000000000000000000000000000000000000000000000000000000000000000000000000000000000000000000000000000000000000000000000000000000000000000000000000000000000000000000000000000000000000000000000000000000000000000000000000000000000000000000000000000000000000000000000000000000000000000000000000000000000000 w w1 ∧ zTrA T E tl Nm Wy u5 K [x] N f.2 z1 w1 (sF g (A ++ B)) Lp z2 w2 g' Lp' ∧ (zFr 0x80000000000000000000000000000000000000000000000000000000000000040000000000000000000000000000000000000000000000000000000000000000000000000000000000000000000000000000000000000000000 z2 z' ∧ zTC z' T) ∧ zFr mX19_drop w2 w'
def zTrD (T : Tp) (E : Ev) (tl Nm : Nat → Nat) (Wy : Wyt) (u5 : Nat → Prop) (K : Int32 → Int32 → Int32 → Prop) (N : Nat) (z w : St) (g : Sg) (Lp : Nat → List Pe) (z' w' : St) (g' : Sg) (Lp' : Nat → List Pe) : Prop := ∀ I : St → St → Sg → (Nat → List Pe) → Prop, (∀ y v h L y' v' h' L', zFrm T E tl Nm Wy u5 K N y v h L y' v' h' L' → I y v h L → I y' v' h' L') → I z w g Lp → I z' w' g' Lp'
