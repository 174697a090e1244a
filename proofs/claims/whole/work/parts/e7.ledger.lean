/-! the class's ledger of writings, as a list of bytes -/
def lgV (z : St) (i : Nat) : Int32 := zgA z 144 0 i &&& (4095 : Int32)
def lgC (z : St) (i : Nat) : Nat := (lgV z i).toNatClampNeg
def lgB (z : St) (i : Nat) (v8 : Int32) : Int32 :=
  if (4096 : Int32) ≤ zgA z 144 0 i then (((Int64.toInt32 (zgL z 145 0 i)) + (v8 * ((Int64.toInt32 ((((zgL z 145 0 i)).toUInt64 >>> (((8 : Int32)).toInt64.toUInt64 &&& Int64.toUInt64 63)).toInt64)) &&& (255 : Int32)))) &&& (255 : Int32))
  else ((Int64.toInt32 ((((zgL z 145 0 i)).toUInt64 >>> ((((8 : Int32) * ((lgV z i - (1 : Int32)) - v8))).toInt64.toUInt64 &&& Int64.toUInt64 63)).toInt64)) &&& (255 : Int32))
/-- the bytes of a maker's entry i; all before entry k -/
def lgE (z : St) (m : Int32) (i : Nat) : List Int32 := if zgA z 143 0 i = m then (List.range (lgC z i)).map (fun j => lgB z i (Int32.ofNat j)) else []
def lgS (z : St) (m : Int32) : Nat → List Int32
  | 0 => []
  | k + 1 => lgS z m k ++ lgE z m k
theorem lgS_add (z : St) (m : Int32) (X : Nat) : ∀ d, ∃ l, lgS z m (X + d) = lgS z m X ++ l := by
  intro d
  induction d with
  | zero => exact ⟨[], by rw [List.append_nil]; rfl⟩
  | succ d ih =>
    obtain ⟨l, hl⟩ := ih
    refine ⟨l ++ lgE z m (X + d), ?_⟩
    show lgS z m (X + d) ++ lgE z m (X + d) = _
    rw [hl, List.append_assoc]
theorem lgE_len {z : St} {m : Int32} {i : Nat} (h : zgA z 143 0 i = m) : (lgE z m i).length = lgC z i := by
  unfold lgE; rw [if_pos h, List.length_map, List.length_range]
theorem lgE_get {z : St} {m : Int32} {i j : Nat} (h : zgA z 143 0 i = m) (hj : j < lgC z i) : (lgE z m i)[j]? = some (lgB z i (Int32.ofNat j)) := by
  unfold lgE; rw [if_pos h, List.getElem?_map, List.getElem?_range hj]; rfl
theorem lgS_get {z : St} {m : Int32} {X j n : Nat} (hX : X < n) (h : zgA z 143 0 X = m) (hj : j < lgC z X) : (lgS z m n)[(lgS z m X).length + j]? = some (lgB z X (Int32.ofNat j)) := by
  obtain ⟨l, hl⟩ := lgS_add z m (X + 1) (n - (X + 1))
  rw [show X + 1 + (n - (X + 1)) = n from by omega] at hl
  rw [hl]
  show (lgS z m X ++ lgE z m X ++ l)[_]? = _
  rw [List.append_assoc, List.getElem?_append_right (by omega), show (lgS z m X).length + j - (lgS z m X).length = j from by omega, List.getElem?_append_left (by rw [lgE_len h]; exact hj)]
  exact lgE_get h hj
/-- the entry's part of a pointer -/
def lgP (z : St) (m : Int32) (n x y : Nat) : Nat := (lgS z m x).length + (if x < n ∧ zgA z 143 0 x = m then y else 0)
/-- a pointer into the ledger -/
def zPt (z : St) (m : Int32) (n e x y : Nat) : Prop := zgI z 2 10 e = Int32.ofNat x ∧ zgI z 2 11 e = Int32.ofNat y ∧ x ≤ n ∧ (x < n ∨ y = 0) ∧ y ≤ 4096 ∧ (x < n → zgA z 143 0 x = m → y ≤ lgC z x)
theorem lgV_o (z : St) (i : Nat) : lgV z i = Int32.ofNat (lgC z i) ∧ lgC z i ≤ 4095 := by
  have e : lgV z i = Int32.ofNat (zun (zgA z 144 0 i) % 4096) := by
    apply zun_inj
    rw [zun_of (by omega)]
    show (zgA z 144 0 i &&& (4095 : Int32)).toBitVec.toNat = _
    show ((zgA z 144 0 i).toBitVec &&& (4095 : Int32).toBitVec).toNat = _
    rw [BitVec.toNat_and]
    exact Nat.and_two_pow_sub_one_eq_mod _ 12
  have c : lgC z i = zun (zgA z 144 0 i) % 4096 := by unfold lgC; rw [e, zoC (by omega)]
  rw [c]; exact ⟨e, by omega⟩
def zLe (e : Nat) (z z' : St) : Prop := (∀ k j o, ¬ (k = 2 ∧ (j = 10 ∨ j = 11) ∧ o = e) → zgI z' k j o = zgI z k j o) ∧ (∀ k o i, zgA z' k o i = zgA z k o i) ∧ (∀ k o i, zgL z' k o i = zgL z k o i) ∧ (∀ k o i, zgQ z' k o i = zgQ z k o i) ∧ ∀ k j o, zgR z' k j o = zgR z k j o
theorem zLe_rf (e : Nat) (z : St) : zLe e z z := ⟨fun _ _ _ _ => rfl, fun _ _ _ => rfl, fun _ _ _ => rfl, fun _ _ _ => rfl, fun _ _ _ => rfl⟩
theorem zLe_I {e j : Nat} {z z' : St} {v : Int32} (hj : j = 10 ∨ j = 11) (h : zLe e z z') : zLe e z (zsI z' 2 j e v) := ⟨fun k j' o n => by rw [zgI_sI, if_neg (fun y => n ⟨y.1, by rw [y.2.1]; exact hj, y.2.2⟩)]; exact h.1 k j' o n, h.2.1, h.2.2.1, h.2.2.2.1, h.2.2.2.2⟩
/-- an entry's next byte -/
theorem zc_next31 {z0 z : St} {m : Int32} {n e x y N : Nat} {K5 : Nat → Nat → Int32 → St → Option (Int32 × St)} (f : zLe e z0 z) (h212 : zgR z0 2 12 e = some e) (hm : zgI z0 3 15 e = m) (hn : n ≤ 512) (hx : x < n) (hp : zPt z m n e x y) :
    (zgA z0 143 0 x = m ∧ y < lgC z0 x ∧ ∃ z', fX11_nextWritten_31 N K5 0 e (Int32.ofNat x) z = some (lgB z0 x (Int32.ofNat y), z') ∧ zLe e z0 z' ∧ zPt z' m n e x (y + 1)) ∨ ((zgA z0 143 0 x = m → y = lgC z0 x) ∧ fX11_nextWritten_31 N K5 0 e (Int32.ofNat x) z = K5 0 e (Int32.ofNat (x + 1)) z) := by
  obtain ⟨p1, p2, p3, p4, p5, p6⟩ := hp
  have fA := f.2.1
  have fL := f.2.2.1
  obtain ⟨v1, v2⟩ := lgV_o z0 x
  have o1 : Int32.ofNat x + 1 = Int32.ofNat (x + 1) := zo_add x 1
  have m3 : zgI z 3 15 e = m := (f.1 3 15 e (by omega)).trans hm
  have r : zgR z 2 12 e = some e := (f.2.2.2.2 2 12 e).trans h212
  have V : zgA z 144 0 x &&& (4095 : Int32) = Int32.ofNat (lgC z0 x) := by rw [fA]; exact v1
  unfold fX11_nextWritten_31 fX11_nextWritten_153
  rw [zkk (show x < 512 by omega) (by omega), zoC (show x < 2147483648 by omega), V, zl_e, zkk (show x < 512 by omega) (by omega), r, zl_e, zd_e, fA, m3, p2, o1]
  by_cases c : zgA z0 143 0 x = m
  · rw [if_neg (show ¬ ¬ zgA z0 143 0 x = m from fun q => q c)]
    have hy : y ≤ lgC z0 x := by
      have := p6 hx (by rw [fA]; exact c)
      unfold lgC lgV at this ⊢
      rw [fA] at this; exact this
    by_cases d : y < lgC z0 x
    · left
      rw [if_pos (show Int32.ofNat y < Int32.ofNat (lgC z0 x) from (zo_lt (by omega) (by omega)).mpr d)]
      obtain ⟨z', hz⟩ : ∃ u, u = zsI z 2 11 e (Int32.ofNat y + 1) := ⟨_, rfl⟩
      refine ⟨c, d, z', ?_, ?_, ?_⟩
      · have A : zgA z' 144 0 x = zgA z0 144 0 x := by rw [hz]; exact fA 144 0 x
        have L : zgL z' 145 0 x = zgL z0 145 0 x := by rw [hz]; exact fL 145 0 x
        rw [zl_e, zl_e, ← hz, zkk (show x < 512 by omega) (by omega), A, L]
        unfold lgB
        by_cases q : (4096 : Int32) ≤ zgA z0 144 0 x
        · rw [if_pos q, if_pos q, zkk (show x < 512 by omega) (by omega), zl_e, zkk (show x < 512 by omega) (by omega)]
        · rw [if_neg q, if_neg q, zkk (show x < 512 by omega) (by omega), v1]
      · rw [hz]; exact zLe_I (by omega) f
      · rw [hz]
        refine ⟨?_, ?_, p3, Or.inl hx, by omega, fun _ _ => ?_⟩
        · rw [zgI_sI, if_neg (by omega)]; exact p1
        · rw [zgI_sI, if_pos ⟨rfl, rfl, rfl⟩]; exact zo_add y 1
        · show y + 1 ≤ (zgA z 144 0 x &&& (4095 : Int32)).toNatClampNeg
          rw [V, zoC (by omega)]; omega
    · right
      rw [if_neg (show ¬ Int32.ofNat y < Int32.ofNat (lgC z0 x) from fun q => d ((zo_lt (by omega) (by omega)).mp q)), zl_e]
      exact ⟨fun _ => by omega, rfl⟩
  · right
    rw [if_pos (show ¬ zgA z0 143 0 x = m from c), zl_e]
    exact ⟨fun q => absurd q c, rfl⟩
/-- the next byte of a maker's, as a list -/
theorem zc_next5 {z0 : St} {m : Int32} {n e N : Nat} (h19 : zgI z0 11 19 0 = Int32.ofNat n) (hn : n ≤ 512) (h212 : zgR z0 2 12 e = some e) (hm : zgI z0 3 15 e = m) :
    ∀ (d X nf x y P : Nat) (z : St), X + d = n → d < nf → zLe e z0 z → zPt z m n e x y → x ≤ X → P = (lgS z0 m X).length + (if X < n ∧ zgA z0 143 0 X = m then (if X = x then y else 0) else 0) → lgP z0 m n x y = P →
    ∃ v z' x' y', fX11_nextWritten_5 N nf 0 e (Int32.ofNat X) z = some (v, z') ∧ zLe e z0 z' ∧ zPt z' m n e x' y' ∧ (((lgS z0 m n)[P]? = some v ∧ lgP z0 m n x' y' = P + 1) ∨ ((lgS z0 m n).length ≤ P ∧ v = -1 ∧ lgP z0 m n x' y' = P)) := by
  intro d
  induction d with
  | zero =>
    intro X nf x y P z hX hf f hp hx hP hq
    obtain ⟨nf, rfl⟩ : ∃ k, nf = k + 1 := ⟨nf - 1, by omega⟩
    refine ⟨-1, z, x, y, ?_, f, hp, Or.inr ⟨?_, rfl, hq⟩⟩
    · show fX11_nextWritten_5b N (fX11_nextWritten_5 N nf) 0 e (Int32.ofNat X) z = _
      unfold fX11_nextWritten_5b
      rw [f.1 11 19 0 (by omega), h19, if_pos (show Int32.ofNat n ≤ Int32.ofNat X from (zo_le (by omega) (by omega)).mpr (by omega))]
    · rw [show n = X from by omega, hP]; exact Nat.le_add_right _ _
  | succ d ih =>
    intro X nf x y P z hX hf f hp hx hP hq
    obtain ⟨nf, rfl⟩ : ∃ k, nf = k + 1 := ⟨nf - 1, by omega⟩
    have hXn : X < n := by omega
    -- the pointer at X
    obtain ⟨z1, Y, g, hp1, e1, e2⟩ : ∃ z1 Y, zLe e z0 z1 ∧ zPt z1 m n e X Y ∧ P = (lgS z0 m X).length + (if X < n ∧ zgA z0 143 0 X = m then Y else 0) ∧ (if Int32.ofNat X = zgI z 2 10 e then fX11_nextWritten_31 N (fX11_nextWritten_5 N nf) 0 e (Int32.ofNat X) z else (zl (zsI z 2 10 e (Int32.ofNat X)) fun z3 => zl (zsI z3 2 11 e (0 : Int32)) fun z4 => fX11_nextWritten_31 N (fX11_nextWritten_5 N nf) 0 e (Int32.ofNat X) z4)) = fX11_nextWritten_31 N (fX11_nextWritten_5 N nf) 0 e (Int32.ofNat X) z1 := by
      obtain ⟨p1, p2, p3, p4, p5, p6⟩ := id hp
      by_cases c : X = x
      · subst c
        refine ⟨z, y, f, hp, ?_, by rw [p1, if_pos rfl]⟩
        rw [hP, if_pos rfl]
      · refine ⟨zsI (zsI z 2 10 e (Int32.ofNat X)) 2 11 e 0, 0, zLe_I (by omega) (zLe_I (by omega) f), ⟨?_, ?_, by omega, Or.inl hXn, by omega, fun _ _ => Nat.zero_le _⟩, ?_, ?_⟩
        · rw [zgI_sI, if_neg (by omega), zgI_sI, if_pos ⟨rfl, rfl, rfl⟩]
        · rw [zgI_sI, if_pos ⟨rfl, rfl, rfl⟩]; rfl
        · rw [hP, if_neg c]
        · rw [p1, if_neg (show ¬ Int32.ofNat X = Int32.ofNat x from fun q => c ((zo_eq (by omega) (by omega)).mp q)), zl_e, zl_e]
    have run : fX11_nextWritten_5 N (nf + 1) 0 e (Int32.ofNat X) z = fX11_nextWritten_31 N (fX11_nextWritten_5 N nf) 0 e (Int32.ofNat X) z1 := by
      rw [← e2]
      show fX11_nextWritten_5b N (fX11_nextWritten_5 N nf) 0 e (Int32.ofNat X) z = _
      unfold fX11_nextWritten_5b
      rw [f.1 11 19 0 (by omega), h19, if_neg (show ¬ Int32.ofNat n ≤ Int32.ofNat X from fun q => by
        have := (zo_le (by omega) (by omega)).mp q
        omega)]
    rw [run]
    have hlp : lgP z0 m n X Y = P := e1.symm
    rcases zc_next31 (N := N) (K5 := fX11_nextWritten_5 N nf) g h212 hm hn hXn hp1 with ⟨a1, a2, z', a3, a4, a5⟩ | ⟨a1, a2⟩
    · refine ⟨_, z', X, Y + 1, a3, a4, a5, Or.inl ⟨?_, ?_⟩⟩
      · rw [e1, if_pos ⟨hXn, a1⟩]; exact lgS_get hXn a1 a2
      · unfold lgP; rw [e1, if_pos ⟨hXn, a1⟩, if_pos ⟨hXn, a1⟩]; omega
    · rw [a2]
      refine ih (X + 1) nf X Y P z1 (by omega) (by omega) g hp1 (by omega) ?_ hlp
      rw [if_neg (show ¬ X + 1 = X by omega), ite_self, e1]
      show _ = (lgS z0 m X ++ lgE z0 m X).length + 0
      rw [List.length_append]
      by_cases c : zgA z0 143 0 X = m
      · rw [if_pos ⟨hXn, c⟩, a1 c, lgE_len c]; rfl
      · rw [if_neg (fun q => c q.2)]
        unfold lgE; rw [if_neg c]; rfl
theorem zc_nextWritten {z : St} {m : Int32} {n e x y N : Nat} (h19 : zgI z 11 19 0 = Int32.ofNat n) (hn : n ≤ 512) (h212 : zgR z 2 12 e = some e) (hm : zgI z 3 15 e = m) (hp : zPt z m n e x y) (hN : 600 < N) :
    ∃ v z' x' y', fX11_nextWritten N 0 e z = some (v, z') ∧ zLe e z z' ∧ zPt z' m n e x' y' ∧ (((lgS z m n)[lgP z m n x y]? = some v ∧ lgP z m n x' y' = lgP z m n x y + 1) ∨ ((lgS z m n).length ≤ lgP z m n x y ∧ v = -1 ∧ lgP z m n x' y' = lgP z m n x y)) := by
  unfold fX11_nextWritten
  rw [hp.1, zl_e]
  obtain ⟨-, -, h3, -⟩ := id hp
  exact zc_next5 h19 hn h212 hm (n - x) x N x y (lgP z m n x y) z (by omega) (by omega) (zLe_rf e z) hp (Nat.le_refl _) (by unfold lgP; rw [if_pos rfl]) rfl
/-- what was written last stands behind -/
theorem lgE_cg {z z' : St} {m : Int32} {i : Nat} (h3 : zgA z' 143 0 i = zgA z 143 0 i) (h4 : zgA z' 144 0 i = zgA z 144 0 i) (h5 : zgL z' 145 0 i = zgL z 145 0 i) : lgE z' m i = lgE z m i := by
  unfold lgE lgC lgB lgV
  rw [h3, h4, h5]
theorem lgS_cg {z z' : St} {m : Int32} : ∀ n, (∀ i, i < n → zgA z' 143 0 i = zgA z 143 0 i ∧ zgA z' 144 0 i = zgA z 144 0 i ∧ zgL z' 145 0 i = zgL z 145 0 i) → lgS z' m n = lgS z m n := by
  intro n
  induction n with
  | zero => intro _; rfl
  | succ n ih =>
    intro h
    show lgS z' m n ++ lgE z' m n = lgS z m n ++ lgE z m n
    rw [ih (fun i hi => h i (by omega)), lgE_cg (h n (by omega)).1 (h n (by omega)).2.1 (h n (by omega)).2.2]
