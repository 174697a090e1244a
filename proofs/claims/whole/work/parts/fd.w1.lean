/-! the world between two stations: one step of the network -/
/-- ports of routers on nets that frames come from are up -/
def zU5 (w : St) (T : Tp) (u5 : Nat → Prop) : Prop := ∀ n, u5 n → ∀ q, tv T q → q / 8 = n → tr T (tw T q) = true → zgI w 18 5 q = 1
def zW1 (z w : St) (T : Tp) (E : Ev) (tl Nm : Nat → Nat) (Wy : Wyt) (u5 : Nat → Prop) (K : Int32 → Int32 → Int32 → Prop) (g : Sg) (R : Rg) (mk : Nat → Nat) (S : Nat → Rs) (Lp : Nat → List Pe) (od : Nat → Nat) (X XM : List Nat) : Prop :=
  zIp z w T E g g Wy R mk K X XM [] (zTA w T) (zTB w T) ∧ zB44 z w T ∧ zWa z w T E tl Nm Wy S ∧ zWp z w T E R Lp od ∧ zMs z w T ∧ zQI T (rF T E Nm u5) (fun q _ D => rW T Nm q D) g ∧ (∀ b, b < tb T → rP T Nm (Lp b)) ∧ zU5 w T u5
theorem zU5_a {w w' : St} {T : Tp} {u5 : Nat → Prop} (q : zAgr 0x20000000000000000000000000000000000000000000000000000000000000000000000000000000000000000000000000000000000000000000000000000000000000000000000000000000000000000000000000000000000000000000000000000000000000000000000000000000000000000000000000000000000000000000000000000000000000000000000000 w w') (h : zU5 w T u5) : zU5 w' T u5 := fun n hn p hp hpn hr => (q.1 18 5 p (by decide) (by decide) (by decide)).trans (h n hn p hp hpn hr)
theorem zW1_q {z z' w w' : St} {T : Tp} {E : Ev} {tl Nm : Nat → Nat} {Wy : Wyt} {u5 : Nat → Prop} {K : Int32 → Int32 → Int32 → Prop} {g g' : Sg} {R R' : Rg} {mk mk' : Nat → Nat} {S : Nat → Rs} {Lp : Nat → List Pe} {od : Nat → Nat} {X X' XM XM' : List Nat} (h : zW1 z w T E tl Nm Wy u5 K g R mk S Lp od X XM) (q : zQt T z z' w w') (hp : zIp z' w' T E g' g' Wy R' mk' K X' XM' [] (zTA w' T) (zTB w' T)) (hR : ∀ c n v, R c n = some v → R' c n = some v) (hQ : zQI T (rF T E Nm u5) (fun q _ D => rW T Nm q D) g') : zW1 z' w' T E tl Nm Wy u5 K g' R' mk' S Lp od X' XM' := by
  obtain ⟨h1, h2, h3, h4, h5, h6, h7, h8⟩ := h
  obtain ⟨q1, q2, q3, q4⟩ := q
  have hc := h1.1.1.2.1
  exact ⟨hp, zB44_a (zAgr_fr q1 (by decide)) (zAgr_fr q4 (by decide)) h2, zWa_a hc (zAgr_fr q1 (by decide)) (zAgr_fr q4 (by decide)) h3, zWp_a hc (zAgr_fr q1 (by decide)) q2 (zAgr_fr q4 (by decide)) hR h4, zMs_a (zAgr_fr q1 (by decide)) (zAgr_fr q4 (by decide)) h5, hQ, h7, zU5_a (zAgr_fr q4 (by decide)) h8⟩
/-- what the class's ends and ledger, and the model's books are, where strays are counted -/
def mJC : Nat := 0x38000020000000000000000000000000000000000000000000000000000000000000000000000000000000000000000000000000000000000000000000000000000000000000000000000008008000000000000000020000000000000000000000000000000000000000000000000000000000000134000000000000000000000000000000fc000000000000c0e80000000000000c0f00000000000010000000000000000000
def mJM : Nat := 0x160000000000000000000000000000000000000000000000000000000000000000000000000000000000000000000000000000000070000002010000000000000000000000000000000000000000000000000000000000000000000000000000000000000000000000000000000000000000000000000000000000000000000000000000000000000000000000000000000000000000000000000000000000000000000000000000000000
def zJq (T : Tp) (z z' w w' : St) : Prop := zS4 T z z' ∧ zAgr mJC z z' ∧ zAgr mJM w w'
theorem zJq_tr {T : Tp} {a b c x y z : St} (h1 : zJq T a b x y) (h2 : zJq T b c y z) : zJq T a c x z := ⟨zS4_tr h1.1 h2.1, zAgr_tr h1.2.1 h2.2.1, zAgr_tr h1.2.2 h2.2.2⟩
theorem zJq_rf {T : Tp} {z w : St} (h : zTC z T) : zJq T z z w w := ⟨zS4_rf h, zAgr_rf _ _, zAgr_rf _ _⟩
theorem zJq_q {T : Tp} {z z' w w' : St} (h : zQt T z z' w w') : zJq T z z' w w' := ⟨h.2.2.1, zAgr_fr h.1 (by decide), zAgr_fr h.2.2.2 (by decide)⟩
theorem zUd_q {T : Tp} {z0 z z' w w' : St} (h : zUd z0 z) (q : zQt T z z' w w') : zUd z0 z' := zUd_fr h q.1 (by decide)
/-- what is sent back is sent -/
def zTl (N b : Nat) (z z' : St) : Prop := (zgI z 11 15 0 = 0 ∧ z' = z) ∨ (¬ zgI z 11 15 0 = 0 ∧ fX11_sendOff N 0 b 0 (zsI z 11 15 0 0) = some (0, z'))
/-- a segment came (with what was in hand dropped behind it) -/
def zTs (T : Tp) (E : Ev) (g : Sg) (Wy : Wyt) (b q u : Nat) (Dc : Dg) (N : Nat) (z w z' w' : St) (g' : Sg) : Prop := ∃ z1 w1 zh w2 s, tr T b = false ∧ Dc.1 2 = 1 ∧ s < 2400 ∧ zJq T z z1 w w1 ∧ fX7_readHead N u z1 = some (0, zh) ∧ zSgC zh u (vOf Dc) ∧ zSgM w1 s (vOf Dc) ∧ (∀ k j o, ¬ (k = 7 ∧ o = u ∧ 15 ≤ j ∧ j ≤ 19) → zgI zh k j o = zgI z1 k j o) ∧ (∀ k o i, zgA zh k o i = zgA z1 k o i) ∧ (∀ k o i, zgL zh k o i = zgL z1 k o i) ∧ zSgF z1 zh w1 T E g Wy b q u s (vOf Dc) (g2 Dc.2 2) (Dc.1 0) (g2 Dc.2 0) N z' w2 g' ∧ zFr mX19_drop w2 w'
theorem zQt_drop {T : Tp} {z w w' : St} (h : zTC z T) (f : zFr mX19_drop w w') : zQt T z z w w' := ⟨zFr_rf _ _, zKs_rf z, zS4_rf h, zFr_w f (by decide)⟩
theorem zMD_fr {M : Nat} {w w' : St} {T : Tp} {K : Int32 → Int32 → Int32 → Prop} {H : List Nat} {d : Nat} {D : Dg} (k : zKm H w w') (hd : d ∈ H) (hD : zMD w T K d D) : zMD w' T K d D := zMD_cg hD.1.1 (fun j hj => k.1 d j hd hj) k.2.1 (fun j i => k.2.2.2 175 j i) k.2.2.1 rfl (fun _ _ => rfl) hD
/-- the model's copy goes -/
theorem zW1_drop {z w : St} {T : Tp} {E : Ev} {tl Nm : Nat → Nat} {Wy : Wyt} {u5 : Nat → Prop} {K : Int32 → Int32 → Int32 → Prop} {g : Sg} {R : Rg} {mk : Nat → Nat} {S : Nat → Rs} {Lp : Nat → List Pe} {od : Nat → Nat} {X XM : List Nat} {c N : Nat} (h : zW1 z w T E tl Nm Wy u5 K g R mk S Lp od X (c :: XM)) : ∃ w', fX19_drop N 0 (Int32.ofNat c) w = some (0, w') ∧ zW1 z w' T E tl Nm Wy u5 K g R mk S Lp od X XM ∧ zFr mX19_drop w w' ∧ ∀ d D, d ∈ XM → zMD w T K d D → zMD w' T K d D := by
  obtain ⟨w', a1, a2, a3, a4⟩ := zIp_drop (N := N) h.1
  have TA' : zTA w' T = zTA w T := zTA_cg (fun c k _ _ => zFr_gA a4 (by decide) c k)
  have TB' : zTB w' T = zTB w T := zTB_cg (fun j v hj => by rcases hj with rfl | rfl <;> exact zFr_gI a4 (by decide) (by decide) v)
  exact ⟨w', a1, zW1_q h (zQt_drop h.1.1.1.1 a4) (by rw [TA', TB']; exact a2) (fun _ _ _ y => y) h.2.2.2.2.2.1, a4, fun d D hd hD => zMD_fr (M := 0) a3 (List.mem_cons_of_mem _ hd) hD⟩
