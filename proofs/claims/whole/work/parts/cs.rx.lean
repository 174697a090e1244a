/-! a router between its turns -/
/-- adverts: numbers that were made, nets that there are -/
def Qg (T : Tp) (Nm : Nat → Nat) : Qt := fun of_ num L => num ≤ Nm of_ ∧ ∀ e, e ∈ L → e.2.1 < tn T
theorem zRkD_q {Q Q' : Qt} {T : Tp} {p : Nat} {D : Dg} (h : ∀ a n L, Q a n L → Q' a n L) (hD : zRkD Q T p D) : zRkD Q' T p D := by
  rcases hD with hD | ⟨k3, of_, num, L, ho, hn1, hn, hA, hL, hdw, hQ⟩ | hD
  · exact Or.inl hD
  · exact Or.inr (Or.inl ⟨k3, of_, num, L, ho, hn1, hn, hA, hL, hdw, h _ _ _ hQ⟩)
  · exact Or.inr (Or.inr hD)
theorem zRok_q {Q Q' : Qt} {T : Tp} {R : Rg} (h : ∀ a n L, Q a n L → Q' a n L) (hR : zRok Q T R) : zRok Q' T R := fun c n v e k => by
  obtain ⟨p, p1, p2, p3, p4⟩ := hR c n v e k
  exact ⟨p, p1, p2, p3, zRkD_q h p4⟩
theorem Qg_up {T : Tp} {Nm Nm' : Nat → Nat} (h : ∀ r, Nm r ≤ Nm' r) : ∀ a n L, Qg T Nm a n L → Qg T Nm' a n L := fun a _ _ hQ => ⟨Nat.le_trans hQ.1 (h a), hQ.2⟩
/-- what is so of a base's adverts -/
def zBq (T : Tp) (E : Ev) (Nm : Nat → Nat) (Ba : Nat → Option Ad) : Prop := ∀ r a, Ba r = some a → a.2.1 ≤ eN E ∧ zEn a.2.2 ∧ Qg T Nm r a.1 a.2.2
theorem zBq_t {T : Tp} {E : Ev} {Nm : Nat → Nat} {Ba : Nat → Option Ad} (h : zBq T E Nm Ba) : zBt T Ba := by
  refine ⟨fun r => ?_, fun r e he => ?_⟩
  · unfold bE
    cases q : Ba r with
    | none => exact ⟨Nat.zero_le _, fun e he => by cases he⟩
    | some a => exact (h r a q).2.1
  · unfold bE at he
    cases q : Ba r with
    | none => rw [q] at he; cases he
    | some a => rw [q] at he; exact (h r a q).2.2.2 e he
theorem bLs_E {Ba : Nat → Option Ad} {b : Nat} {L : List En} (h : bLs Ba b = some L) : bE Ba b = L := by
  unfold bLs at h
  unfold bE
  cases q : Ba b with
  | none => rw [q] at h; cases h
  | some a => rw [q] at h; exact Option.some.inj h
/-- friends of keys that are known -/
theorem rDr_oa {T : Tp} {E : Ev} {tl : Nat → Nat} {b : Nat} {F : List Nat} (hc : zTc T) (hb : b < tb T) (hF : F.Pairwise (fun x y => x < y)) (hK : ∀ x, x ∈ F → zKok T b x) : zOa T b (rDr T E tl b F) ∧ ∀ e, e ∈ rDr T E tl b F → e.2.1 < tn T := by
  refine ⟨⟨?_, fun e he h0 => ?_⟩, fun e he => ?_⟩
  · refine List.pairwise_append.mpr ⟨?_, ?_, fun x hx y _ hx0 _ => ?_⟩
    · exact (dN_pw T E tl b _).imp (fun h _ _ => h)
    · exact (dF_pw hc hb hF _).imp (fun h _ _ => h)
    · obtain ⟨n, p, -, -, -, e⟩ := dN_mem.mp hx
      rw [e] at hx0; exact absurd rfl hx0
  · rcases List.mem_append.mp he with h | h
    · obtain ⟨n, p, -, -, -, e1⟩ := dN_mem.mp h
      rw [e1] at h0; exact absurd rfl h0
    · obtain ⟨n, p, x, hn, hp, hx, hi, rfl⟩ := dF_mem.mp h
      obtain ⟨k1, k2, k3, k4, q2, k5⟩ := hK x hx
      obtain ⟨p1, p2, p3, p4, p5⟩ := tpo_some hc hb hp
      rw [hi, p5] at k5
      show x % 16 + 1 - 1 < tb T ∧ x % 16 + 1 - 1 ≠ b ∧ tr T (x % 16 + 1 - 1) = true ∧ (∃ q, tpo T b (p / 8) = some q) ∧ ∃ q, tpo T (x % 16 + 1 - 1) (p / 8) = some q
      rw [Nat.add_sub_cancel]
      exact ⟨k2, k4, k3, ⟨p, by rw [p3]; exact hp⟩, q2, k5⟩
  · rcases List.mem_append.mp he with h | h
    · obtain ⟨n, p, hn, -, -, rfl⟩ := dN_mem.mp h
      exact hn
    · obtain ⟨n, p, x, hn, hp, hx, hi, rfl⟩ := dF_mem.mp h
      obtain ⟨p1, -⟩ := tpo_some hc hb hp
      exact p1.1
theorem fks_ok {T : Tp} {b : Nat} {H : List Nb} (h : ∀ n, n ∈ H → n.1 / 16 < tp T b ∧ n.1 % 16 < tb T ∧ tr T (n.1 % 16) = true ∧ n.1 % 16 ≠ b ∧ ∃ p, tpo T (n.1 % 16) (tq T b (n.1 / 16) / 8) = some p) : ∀ x, x ∈ fks H → zKok T b x := fun x hx => by
  obtain ⟨n, n1, n2, -⟩ := fks_sub hx
  rw [← n2]; exact h n n1
theorem rDr_cg {T : Tp} {E E' : Ev} {tl : Nat → Nat} {b : Nat} {F : List Nat} (h : ∀ n p, tpo T b n = some p → eU E' n = eU E n) : rDr T E' tl b F = rDr T E tl b F := by
  unfold rDr
  congr 1
  unfold dN
  congr 1
  funext n
  cases e : tpo T b n with
  | none => rfl
  | some p => dsimp only; rw [h n p e]
theorem cWay_cg {T : Tp} {E E' : Ev} {tl : Nat → Nat} {b n : Nat} {Ba : Nat → Option Ad} (h : ∀ n p, tpo T b n = some p → eU E' n = eU E n) : cWay T E' tl b Ba n = cWay T E tl b Ba n := by
  unfold cWay rWay
  cases e : tpo T b n with
  | none => rfl
  | some p => dsimp only; rw [h n p e]
theorem seen_cg {w : St} {T : Tp} {E E' : Ev} {b : Nat} (hc : zTc T) (hb : b < tb T) (h1 : ∀ j, j < tp T b → zgI w 18 5 (tq T b j) = zbi (eU E' (tq T b j / 8))) (h2 : ∀ j, j < tp T b → zgI w 18 5 (tq T b j) = zbi (eU E (tq T b j / 8))) : ∀ n p, tpo T b n = some p → eU E' n = eU E n := fun n p hp => by
  obtain ⟨p1, p2, p3, p4, p5⟩ := tpo_some hc hb hp
  have a := h1 (ti T p) p4
  have c := h2 (ti T p) p4
  rw [p5, p3] at a c
  rw [a] at c
  exact (zbi_e _ _).mp c
/-- what the class holds of b's draft and ways -/
def zFgC (z : St) (T : Tp) (E : Ev) (tl : Nat → Nat) (V : Wyt) (b : Nat) (s : Rs) : Prop := zgI z 9 11 b = zgI z 11 6 0 → (zgI z 9 10 b = 0 → bLs (rB s) b = some (rDr T E tl b (fks (rH s)))) ∧ (zgI z 0 9 b = 0 → ∀ n, n < 24 → V b n = wI (cWay T E tl b (rB s) n))
/-- what the model holds of them, by what its ports saw -/
def zFgM (w : St) (T : Tp) (tl : Nat → Nat) (V : Wyt) (b : Nat) (s : Rs) : Prop := ∃ E', (∀ j, j < tp T b → zgI w 18 5 (tq T b j) = zbi (eU E' (tq T b j / 8))) ∧ (zgI w 12 24 b = 0 → bLs (rB s) b = some (rDr T E' tl b (fks (rH s)))) ∧ (zgI w 12 23 b = 0 → ∀ n, n < 24 → V b n = wI (cWay T E' tl b (rB s) n))
/-- a router's own numbers -/
def zOn (E : Ev) (Nm : Nat → Nat) (b : Nat) (s : Rs) : Prop := zOw b s ∧ (ro s ≠ 0 → eN E ≤ rm s + 2000) ∧ ro s ≤ Nm b ∧ rh s ≤ Nm b
def zRx (z w : St) (T : Tp) (E : Ev) (tl Nm : Nat → Nat) (V : Wyt) (b : Nat) (s : Rs) : Prop :=
  zRp z w T E b s ∧ zOn E Nm b s ∧ (zBq T E Nm (rB s) ∧ zOa T b (bE (rB s) b)) ∧ (∀ e, e ∈ rT s → 1 ≤ e.2.2) ∧ (∀ n, tn T ≤ n → n < 24 → V b n = (-1, -1, -1)) ∧ (zFgC z T E tl V b s ∧ zFgM w T tl V b s) ∧ (zgI w 12 23 b = 0 ∨ zgI w 12 23 b = 1)
theorem hSil_up {T : Tp} {E : Ev} {b : Nat} {H : List Nb} (h : ∀ n, n ∈ H → n.1 / 16 < tp T b) : zHup T E b (hSil T E b H) := fun n hn => by
  obtain ⟨h1, h2⟩ := List.mem_filter.mp hn
  refine ⟨h n h1, ?_⟩
  unfold hSk at h2
  rw [Bool.and_eq_true] at h2
  exact h2.1
/-- the other routers, while b has its turn -/
def zOtC (b : Nat) (z z' : St) : Prop := ∀ c, c ≠ b → (∀ s, zRcl z c s → zRcl z' c s) ∧ zgI z' 9 10 c = zgI z 9 10 c ∧ zgI z' 9 11 c = zgI z 9 11 c ∧ zgI z' 0 9 c = zgI z 0 9 c ∧ zgI z' 11 6 0 = zgI z 11 6 0
def zOtM (T : Tp) (b : Nat) (w w' : St) : Prop := ∀ c, c ≠ b → c < tb T → tr T c = true → (∀ s, zRml w T c s → zRml w' T c s) ∧ zgI w' 12 23 c = zgI w 12 23 c ∧ zgI w' 12 24 c = zgI w 12 24 c ∧ ∀ j, j < tp T c → zgI w' 18 5 (tq T c j) = zgI w 18 5 (tq T c j)
theorem zOtC_tr {b : Nat} {x y z : St} (h1 : zOtC b x y) (h2 : zOtC b y z) : zOtC b x z := fun c hc => by
  obtain ⟨a1, a2, a3, a4, a5⟩ := h1 c hc
  obtain ⟨b1, b2, b3, b4, b5⟩ := h2 c hc
  exact ⟨fun s h => b1 s (a1 s h), b2.trans a2, b3.trans a3, b4.trans a4, b5.trans a5⟩
theorem zOtM_tr {T : Tp} {b : Nat} {x y z : St} (h1 : zOtM T b x y) (h2 : zOtM T b y z) : zOtM T b x z := fun c hc hb hr => by
  obtain ⟨a1, a2, a3, a4⟩ := h1 c hc hb hr
  obtain ⟨b1, b2, b3, b4⟩ := h2 c hc hb hr
  exact ⟨fun s h => b1 s (a1 s h), b2.trans a2, b3.trans a3, fun j hj => (b4 j hj).trans (a4 j hj)⟩
theorem zOtC_tn {b : Nat} {z z' : St} (h : zTnC b z z') : zOtC b z z' := fun c hc => ⟨fun s hR => zRcl_kr h.2 hc hR, h.1 9 10 c (by omega), h.1 9 11 c (by omega), h.1 0 9 c (by omega), h.1 11 6 0 (by omega)⟩
theorem zOtM_mr {T : Tp} {b : Nat} {w w' : St} (hT : zTc T) (h : zMr b w w') (hm : ∀ x, x ∈ zTA w T → x < 2400 → ∀ k, k < 76 → mad w' x k = mad w x k) : zOtM T b w w' := fun c hc hb hr => ⟨fun s hR => zRml_mr h hc hT hb hr hm hR, h.1 12 23 c (by omega) (by omega) (by omega), h.1 12 24 c (by omega) (by omega) (by omega), fun j _ => h.1 18 5 _ (by omega) (by omega) (by omega)⟩
theorem zOtC_fx {b : Nat} {z z' : St} (h : zFCx b z z') : zOtC b z z' := fun c hc => by
  have A : ∀ k i, ((100 ≤ k ∧ k ≤ 111) ∨ (131 ≤ k ∧ k ≤ 138)) → k ≠ 135 → zgA z' k c i = zgA z k c i := fun k i hk h5 => h.2.1 k c i hk (by omega)
  refine ⟨fun s hR => ?_, h.1 9 10 c (by omega) (by omega) (by omega), h.1 9 11 c (by omega) (by omega) (by omega), h.1 0 9 c (by omega) (by omega) (by omega), h.1 11 6 0 (by omega) (by omega) (by omega)⟩
  obtain ⟨a1, a2, a3, a4, a5, a6⟩ := hR
  exact ⟨zRCh_cg (h.1 9 1 c (by omega) (by omega) (by omega)) (fun i => A 131 i (by omega) (by omega)) a1, zRCk_cz (h.1 9 5 c (by omega) (by omega) (by omega)) (fun i => A 132 i (by omega) (by omega)) (fun i => A 133 i (by omega) (by omega)) (fun o i o1 o2 => h.2.1 135 o i (by omega) (by omega)) a2, zRCt_cg (h.1 9 9 c (by omega) (by omega) (by omega)) (fun k i hk => A k i (by omega) (by omega)) a3, zRCb_cg (fun k i hk => A k i (by omega) (by omega)) (fun o i _ _ => h.2.1 104 o i (by omega) (by omega)) a4, (h.1 0 7 c (by omega) (by omega) (by omega)).trans a5, (h.1 0 8 c (by omega) (by omega) (by omega)).trans a6⟩
theorem zOtM_fx {T : Tp} {b : Nat} {w w' : St} (h : zFMx b w w') : zOtM T b w w' := fun c hc hb hr => by
  have I : ∀ j, j < 30 → j ≠ 4 → j ≠ 7 → zgI w' 12 j c = zgI w 12 j c := fun j jl j4 j7 => h.1 12 j c (by omega) jl (by omega) (by omega)
  refine ⟨fun s hR => ?_, I 23 (by omega) (by omega) (by omega), I 24 (by omega) (by omega) (by omega), fun j _ => h.2.2.2 5 _ (Or.inr rfl)⟩
  obtain ⟨⟨ids, a1⟩, a2, a3, a4, a5, a6⟩ := hR
  exact ⟨⟨ids, zRmI_cg (I 13 (by omega) (by omega) (by omega)) (fun i => h.2.2.1 c i) (fun x x1 x2 => ⟨fun j _ => h.1 15 j x (by omega) (by omega) (by omega) (by omega), fun k i hk => h.2.1 k x i (by omega) (by omega)⟩) a1⟩, zRmT_cg (I 22 (by omega) (by omega) (by omega)) (fun k i hk => h.2.1 k c i (by omega) (by omega)) a2, zRmB_cg (fun k i hk => h.2.1 k c i (by omega) (by omega)) (fun x r _ _ _ k _ => h.2.1 178 0 _ (by omega) (by omega)) a3, (I 16 (by omega) (by omega) (by omega)).trans a4, (I 17 (by omega) (by omega) (by omega)).trans a5, (I 18 (by omega) (by omega) (by omega)).trans a6⟩
/-- a step that changes nothing of c's but what the frames say -/
theorem zRml_eq {w w' : St} {T : Tp} {c : Nat} {s : Rs} (hI : ∀ j, zgI w' 12 j c = zgI w 12 j c) (hN : ∀ x j, 16 * c ≤ x → x < 16 * c + 16 → zgI w' 15 j x = zgI w 15 j x) (hA : ∀ k o i, (k = 150 ∨ k = 151 ∨ k = 152 ∨ k = 153 ∨ k = 154 ∨ k = 162 ∨ k = 163 ∨ k = 178) → zgA w' k o i = zgA w k o i) (hQ : ∀ i, zgQ w' 149 c i = zgQ w 149 c i) (hR : zRml w T c s) : zRml w' T c s := by
  obtain ⟨⟨ids, a1⟩, a2, a3, a4, a5, a6⟩ := hR
  exact ⟨⟨ids, zRmI_cg (hI 13) hQ (fun x x1 x2 => ⟨fun j _ => hN x j x1 x2, fun k i hk => hA k x i (by omega)⟩) a1⟩, zRmT_cg (hI 22) (fun k i hk => hA k c i (by omega)) a2, zRmB_cg (fun k i hk => hA k c i (by omega)) (fun x r _ _ _ k _ => hA 178 0 _ (by omega)) a3, (hI 16).trans a4, (hI 17).trans a5, (hI 18).trans a6⟩
/-- another router stays as it is -/
theorem zRx_ot {z z' w w' : St} {T : Tp} {E : Ev} {tl Nm Nm' : Nat → Nat} {V V' : Wyt} {b c : Nat} {s : Rs} (hC : zOtC b z z') (hM : zOtM T b w w') (hc : c ≠ b) (hb : c < tb T) (hr : tr T c = true) (hV : ∀ n, V' c n = V c n) (hN : ∀ r, Nm r ≤ Nm' r) (h : zRx z w T E tl Nm V c s) : zRx z' w' T E tl Nm' V' c s := by
  obtain ⟨c1, c2, c3, c4, c5⟩ := hC c hc
  obtain ⟨m1, m2, m3, m4⟩ := hM c hc hb hr
  obtain ⟨⟨r1, r2, r3, r4, r5⟩, ⟨n1, n2, n3, n4⟩, ⟨q1, q2⟩, t, v, ⟨f1, E', g1, g2, g3⟩, o⟩ := h
  refine ⟨⟨c1 s r1, m1 s r2, r3, r4, by rw [m3]; exact r5⟩, ⟨n1, n2, Nat.le_trans n3 (hN c), Nat.le_trans n4 (hN c)⟩, ⟨fun r a ha => ?_, q2⟩, t, fun n h1 h2 => (hV n).trans (v n h1 h2), ⟨fun y => ?_, E', fun j hj => (m4 j hj).trans (g1 j hj), fun y => g2 (m3.symm.trans y), fun y n hn => (hV n).trans (g3 (m2.symm.trans y) n hn)⟩, by rw [m2]; exact o⟩
  · obtain ⟨b1, b2, b3⟩ := q1 r a ha
    exact ⟨b1, b2, Qg_up hN _ _ _ b3⟩
  · obtain ⟨y1, y2⟩ := f1 ((c3.symm.trans y).trans c5)
    exact ⟨fun k => y1 (c2.symm.trans k), fun k n hn => (hV n).trans (y2 (c4.symm.trans k) n hn)⟩
