/-! the topology: what box(), net() and join() make, and what never changes else -/
abbrev Tp : Type := Nat × Nat × (Nat → Nat) × (Nat → Nat) × (Nat → Nat) × (Nat → Nat) × (Nat → Nat → Nat) × (Nat → Bool)
def tb (T : Tp) : Nat := T.1
def tn (T : Tp) : Nat := T.2.1
def ts (T : Tp) : Nat → Nat := T.2.2.1
def tp (T : Tp) : Nat → Nat := T.2.2.2.1
def tw (T : Tp) : Nat → Nat := T.2.2.2.2.1
def ti (T : Tp) : Nat → Nat := T.2.2.2.2.2.1
def tq (T : Tp) : Nat → Nat → Nat := T.2.2.2.2.2.2.1
def tr (T : Tp) : Nat → Bool := T.2.2.2.2.2.2.2
/-- a port that there is -/
def tv (T : Tp) (p : Nat) : Prop := p / 8 < tn T ∧ p % 8 < ts T (p / 8)
def zad (p : Nat) : Int32 := Int32.ofNat (167772161 + 65536 * (p / 8) + p % 8)
def zTc (T : Tp) : Prop := tb T ≤ 16 ∧ tn T ≤ 24 ∧ (∀ n, n < tn T → ts T n ≤ 8) ∧ (∀ n, tn T ≤ n → ts T n = 0) ∧ (∀ b, b < tb T → tp T b ≤ 6 ∧ (tr T b = false → tp T b ≤ 1)) ∧ (∀ p, tv T p → tw T p < tb T ∧ ti T p < tp T (tw T p) ∧ tq T (tw T p) (ti T p) = p) ∧ (∀ b i, b < tb T → i < tp T b → tv T (tq T b i) ∧ tw T (tq T b i) = b ∧ ti T (tq T b i) = i) ∧ (∀ b i j, b < tb T → i < tp T b → j < tp T b → tq T b i / 8 = tq T b j / 8 → i = j)
def zbi (c : Bool) : Int32 := if c = true then 1 else 0
/-- the class's side of it -/
def zTC (z : St) (T : Tp) : Prop :=
  (zgI z 11 3 0 = Int32.ofNat (tb T) ∧ zgI z 11 1 0 = Int32.ofNat (tn T) ∧ zgR z 11 13 0 = some 0 ∧ zgR z 11 14 0 = some 1) ∧
  ((∀ i, i < 24 → zgQ z 139 0 i = some i ∧ zgI z 5 0 i = Int32.ofNat i ∧ zgI z 5 8 i = Int32.ofNat (ts T i) ∧ ∀ s, s < ts T i → zgQ z 123 i s = some (8 * i + s)) ∧
  (∀ b, b < tb T → zgQ z 140 0 b = some b ∧ zgI z 1 0 b = Int32.ofNat b ∧ zgI z 1 1 b = zbi (tr T b) ∧ zgI z 1 3 b = Int32.ofNat (tp T b) ∧ (∀ i, i < tp T b → zgQ z 112 b i = some (tq T b i)) ∧ (∀ i, tp T b ≤ i → i < 6 → zgQ z 112 b i = none) ∧ (∀ i, i < 4 → zgQ z 114 b i = some (515 + 4 * b + i)))) ∧
  ((∀ b, b < tb T → tr T b = true → zgR z 1 10 b = some b ∧ zgR z 9 12 b = some b ∧ zgI z 0 0 b = Int32.ofNat b) ∧
  (∀ b, b < tb T → tr T b = false → ∀ d, d < 6 → zgQ z 119 b d = some (6 * b + d) ∧ zgR z 2 12 (6 * b + d) = some (6 * b + d) ∧ zgR z 3 16 (6 * b + d) = some (6 * b + d) ∧ zgR z 3 17 (6 * b + d) = some (6 * b + d) ∧ zgR z 3 18 (6 * b + d) = some (6 * b + d))) ∧
  (∀ p, tv T p → zgR z 8 0 p = some (tw T p) ∧ zgR z 8 1 p = some (p / 8) ∧ zgI z 8 2 p = Int32.ofNat (ti T p) ∧ zgI z 8 3 p = Int32.ofNat (p % 8) ∧ zgI z 8 4 p = zad p)
/-- the model's side of it -/
def zTM (w : St) (T : Tp) : Prop :=
  (zgI w 19 19 0 = Int32.ofNat (tb T) ∧ zgI w 19 21 0 = Int32.ofNat (tn T)) ∧
  ((∀ n, n < tn T → zgQ w 187 0 n = some n ∧ zgI w 16 0 n = Int32.ofNat n ∧ zgI w 16 5 n = Int32.ofNat (ts T n) ∧ ∀ s, s < ts T n → zgQ w 164 n s = some (8 * n + s)) ∧
  (∀ b, b < tb T → zgQ w 186 0 b = some b ∧ zgI w 12 0 b = Int32.ofNat b ∧ zgI w 12 1 b = zbi (tr T b) ∧ zgI w 12 3 b = Int32.ofNat (tp T b) ∧ (∀ i, i < tp T b → zgQ w 147 b i = some (tq T b i)))) ∧
  (∀ b, b < tb T → tr T b = false → ∀ d, d < 6 → zgQ w 158 b d = some (6 * b + d) ∧ zgR w 13 4 (6 * b + d) = some (6 * b + d)) ∧
  (∀ p, tv T p → zgR w 18 0 p = some (tw T p) ∧ zgR w 18 2 p = some (p / 8) ∧ zgI w 18 1 p = Int32.ofNat (ti T p) ∧ zgI w 18 3 p = Int32.ofNat (p % 8))
def mTC : Nat := 0x1800088500000000000000000000000000000000000000000000000000000000000000000000000000000000000000000000000000000000000000000000000000000000000000000000000600a00000000000000000000000000001000000000000000001f000000000000000000000000000000000000000000000101000000000000000000000000000700000000000000001000000000000000040b0000000000000001
def mTM : Nat := 0xc0000104008000000000000000000000280000000000000000000f00000000000000000000000000000021000000000000000000000000000000000000000000000010000000000000000b000000000000000000000000000000000000000000000000000000000000000000000000000000000000000000000000000000000000000000000000000000000000000000000000000000000000000000000000000000000000000000000000
theorem zTC_fr {M : Nat} {z z' : St} {T : Tp} (f : zFr M z z') (hm : mTC &&& M = 0) (h : zTC z T) : zTC z' T := by
  have gI : ∀ k j o, k < 100 → mTC.testBit (64 * k + j) = true → zgI z' k j o = zgI z k j o := fun k j o hk hb => zFr_gI f hk (ztf hm hb) o
  have gR : ∀ k j o, k < 100 → mTC.testBit (64 * k + j) = true → zgR z' k j o = zgR z k j o := fun k j o hk hb => zFr_gR f hk (ztf hm hb) o
  have gQ : ∀ k o i, mTC.testBit (1180 + k) = true → zgQ z' k o i = zgQ z k o i := fun k o i hb => zFr_gQ f (ztf hm hb) o i
  unfold zTC
  simp (disch := decide) only [gI, gR, gQ]
  exact h
theorem zTM_fr {M : Nat} {z z' : St} {T : Tp} (f : zFr M z z') (hm : mTM &&& M = 0) (h : zTM z T) : zTM z' T := by
  have gI : ∀ k j o, k < 100 → mTM.testBit (64 * k + j) = true → zgI z' k j o = zgI z k j o := fun k j o hk hb => zFr_gI f hk (ztf hm hb) o
  have gR : ∀ k j o, k < 100 → mTM.testBit (64 * k + j) = true → zgR z' k j o = zgR z k j o := fun k j o hk hb => zFr_gR f hk (ztf hm hb) o
  have gQ : ∀ k o i, mTM.testBit (1180 + k) = true → zgQ z' k o i = zgQ z k o i := fun k o i hb => zFr_gQ f (ztf hm hb) o i
  unfold zTM
  simp (disch := decide) only [gI, gR, gQ]
  exact h
/-! addresses as numbers -/
def zun (x : Int32) : Nat := x.toBitVec.toNat
def zhi (x : Int32) : Nat := zun x / 16777216
def zan (x : Int32) : Nat := zun x / 65536 % 256
def zal (x : Int32) : Nat := zun x % 65536
theorem zun_lt (x : Int32) : zun x < 4294967296 := x.toBitVec.isLt
theorem zhi_lt (x : Int32) : zhi x < 256 := by unfold zhi; have := zun_lt x; omega
theorem zan_lt (x : Int32) : zan x < 256 := by unfold zan; omega
theorem zal_lt (x : Int32) : zal x < 65536 := by unfold zal; omega
theorem zun_inj {x y : Int32} (h : zun x = zun y) : x = y := Int32.toBitVec_inj.mp (BitVec.eq_of_toNat_eq h)
theorem zun_of {k : Nat} (h : k < 4294967296) : zun (Int32.ofNat k) = k := by
  show (BitVec.ofNat 32 k).toNat = k
  rw [BitVec.toNat_ofNat]
  exact Nat.mod_eq_of_lt h
theorem zhi_e (x : Int32) : ((x.toUInt32 >>> (((24 : Int32)).toUInt32 &&& Int32.toUInt32 31)).toInt32) = Int32.ofNat (zhi x) := by
  apply Int32.toBitVec_inj.mp
  apply BitVec.eq_of_toNat_eq
  have e : ((((24 : Int32)).toUInt32 &&& Int32.toUInt32 31)).toBitVec % 32#32 = 24#32 := by decide
  have h2 : (Int32.ofNat (zhi x)).toBitVec.toNat = zhi x := zun_of (by have := zhi_lt x; omega)
  rw [h2]
  show (x.toBitVec >>> (((((24 : Int32)).toUInt32 &&& Int32.toUInt32 31)).toBitVec % 32#32)).toNat = _
  rw [e]
  show (x.toBitVec >>> (24#32 : BitVec 32).toNat).toNat = _
  rw [BitVec.toNat_ushiftRight]
  show x.toBitVec.toNat >>> 24 = _
  rw [Nat.shiftRight_eq_div_pow]
  rfl
theorem zsh16 (x : Int32) : zun ((x.toUInt32 >>> (((16 : Int32)).toUInt32 &&& Int32.toUInt32 31)).toInt32) = zun x / 65536 := by
  have e : ((((16 : Int32)).toUInt32 &&& Int32.toUInt32 31)).toBitVec % 32#32 = 16#32 := by decide
  show (x.toBitVec >>> (((((16 : Int32)).toUInt32 &&& Int32.toUInt32 31)).toBitVec % 32#32)).toNat = _
  rw [e]
  show (x.toBitVec >>> (16#32 : BitVec 32).toNat).toNat = _
  rw [BitVec.toNat_ushiftRight]
  show x.toBitVec.toNat >>> 16 = _
  rw [Nat.shiftRight_eq_div_pow]
  rfl
theorem zand255 (y : Int32) : zun (y &&& (255 : Int32)) = zun y % 256 := by
  show (y.toBitVec &&& 255#32).toNat = _
  rw [BitVec.toNat_and]
  exact Nat.and_two_pow_sub_one_eq_mod _ 8
theorem zan_e (x : Int32) : (((x.toUInt32 >>> (((16 : Int32)).toUInt32 &&& Int32.toUInt32 31)).toInt32) &&& (255 : Int32)) = Int32.ofNat (zan x) := by
  apply zun_inj
  rw [zand255, zsh16, zun_of (by have := zan_lt x; omega)]
  rfl
theorem zan_e2 (x : Int32) : ((x >>> ((16 : Int32) &&& 31)) &&& (255 : Int32)) = Int32.ofNat (zan x) := by
  rw [← zan_e]
  apply Int32.toBitVec_inj.mp
  have e : ((16 : Int32) &&& 31).toBitVec.smod 32#32 = 16#32 := by decide
  have e2 : ((((16 : Int32)).toUInt32 &&& Int32.toUInt32 31)).toBitVec % 32#32 = 16#32 := by decide
  show (x.toBitVec.sshiftRight' (((16 : Int32) &&& 31).toBitVec.smod 32#32)) &&& 255#32 = (x.toBitVec >>> (((((16 : Int32)).toUInt32 &&& Int32.toUInt32 31)).toBitVec % 32#32)) &&& 255#32
  rw [e, e2]
  show (x.toBitVec.sshiftRight 16) &&& 255#32 = (x.toBitVec >>> 16) &&& 255#32
  apply BitVec.eq_of_getLsbD_eq
  intro j hj
  have hd : ∀ j, j < 32 → ((255#32 : BitVec 32).getLsbD j = decide (j < 8)) := by decide +kernel
  rw [BitVec.getLsbD_and, BitVec.getLsbD_and, hd j hj, BitVec.getLsbD_sshiftRight, BitVec.getLsbD_ushiftRight]
  by_cases c : j < 8
  · have c1 : 16 + j < 32 := by omega
    have c2 : ¬ 32 ≤ j := by omega
    simp [c, c1, c2]
  · simp [c]
theorem zal_e (x : Int32) : (x &&& (65535 : Int32)) = Int32.ofNat (zal x) := by
  apply zun_inj
  rw [zun_of (by have := zal_lt x; omega)]
  show (x.toBitVec &&& 65535#32).toNat = _
  rw [BitVec.toNat_and]
  exact Nat.and_two_pow_sub_one_eq_mod _ 16
theorem zun_zad {p : Nat} (h : p / 8 < 24) : zun (zad p) = 167772161 + 65536 * (p / 8) + p % 8 := zun_of (by omega)
theorem zad_hi {p : Nat} (h : p / 8 < 24) : zhi (zad p) = 10 := by unfold zhi; rw [zun_zad h]; omega
theorem zad_an {p : Nat} (h : p / 8 < 24) : zan (zad p) = p / 8 := by unfold zan; rw [zun_zad h]; omega
theorem zad_al {p : Nat} (h : p / 8 < 24) : zal (zad p) = p % 8 + 1 := by unfold zal; rw [zun_zad h]; omega
theorem zad_of {x : Int32} {n s : Nat} (h1 : zhi x = 10) (h2 : zan x = n) (h3 : zal x = s + 1) (hn : n < 24) (hs : s < 8) : x = zad (8 * n + s) := by
  apply zun_inj
  rw [zun_zad (by omega)]
  unfold zhi at h1; unfold zan at h2; unfold zal at h3
  omega
theorem zad_inj {p q : Nat} (hp : p / 8 < 24) (hq : q / 8 < 24) (h : zad p = zad q) : p = q := by
  have := congrArg zun h
  rw [zun_zad hp, zun_zad hq] at this
  omega
theorem zad_e {n s : Nat} (hn : n < 24) (hs : s < 8) : ((((167772160 : Int32) + ((Int32.ofNat n) <<< ((16 : Int32) &&& 31))) + Int32.ofNat s) + (1 : Int32)) = zad (8 * n + s) := by
  have hd : ∀ n, n < 24 → ((Int32.ofNat n) <<< ((16 : Int32) &&& 31)) = Int32.ofNat (65536 * n) := by decide +kernel
  rw [hd n hn]
  unfold zad
  rw [show (167772160 : Int32) = Int32.ofNat 167772160 from rfl, zo_add, zo_add, zo_i1]
  congr 1
  omega
/-- an address of a net that there is -/
def zia (T : Tp) (x : Int32) : Bool := decide (zhi x = 10) && (decide (zan x < tn T) && (decide (1 ≤ zal x) && decide (zal x ≤ 8)))
theorem zia_iff {T : Tp} {x : Int32} : zia T x = true ↔ zhi x = 10 ∧ zan x < tn T ∧ 1 ≤ zal x ∧ zal x ≤ 8 := by
  unfold zia
  simp only [Bool.and_eq_true, decide_eq_true_eq]
theorem zc_isNetAddress {z : St} {T : Tp} (h : zTC z T) (hc : zTc T) (N : Nat) (x : Int32) : fX11_isNetAddress N 0 x z = some (zbi (zia T x), z) := by
  have h24 := hc.2.1
  have a1 := zhi_lt x
  have a2 := zan_lt x
  have a3 := zal_lt x
  unfold fX11_isNetAddress
  rw [zhi_e, zan_e, zal_e, h.1.2.1, show (10 : Int32) = Int32.ofNat 10 from rfl, show (8 : Int32) = Int32.ofNat 8 from rfl, show (1 : Int32) = Int32.ofNat 1 from rfl]
  simp (disch := omega) only [zl_e, zo_eq, zo_lt]
  unfold zia zbi
  by_cases c1 : zhi x = 10
  · by_cases c2 : zan x < tn T
    · by_cases c3 : zal x < 1
      · simp [c1, c2, c3, show ¬ 1 ≤ zal x by omega]
      · by_cases c4 : 8 < zal x
        · simp [c1, c2, c3, c4, show ¬ zal x ≤ 8 by omega]
        · simp [c1, c2, c3, c4, show zal x ≤ 8 by omega, show 1 ≤ zal x by omega]
    · simp [c1, c2]
  · simp [c1]
theorem zm_isAddress {w : St} {T : Tp} (h : zTM w T) (hc : zTc T) (N : Nat) (x : Int32) : fX19_isAddress N 0 x w = some (zbi (zia T x), w) := by
  have h24 := hc.2.1
  have a1 := zhi_lt x
  have a2 := zan_lt x
  have a3 := zal_lt x
  unfold fX19_isAddress
  rw [zhi_e, zan_e2, zal_e, h.1.2, show (10 : Int32) = Int32.ofNat 10 from rfl, show (8 : Int32) = Int32.ofNat 8 from rfl, show (1 : Int32) = Int32.ofNat 1 from rfl]
  simp (disch := omega) only [zl_e, zo_eq, zo_lt, zo_le]
  unfold zia zbi
  by_cases c1 : zhi x = 10
  · by_cases c2 : zan x < tn T
    · by_cases c3 : zal x < 1
      · simp [c1, c2, c3, show ¬ tn T ≤ zan x by omega, show ¬ 1 ≤ zal x by omega]
      · by_cases c4 : 8 < zal x
        · simp [c1, c2, c3, c4, show ¬ tn T ≤ zan x by omega, show ¬ zal x ≤ 8 by omega]
        · simp [c1, c2, c3, c4, show ¬ tn T ≤ zan x by omega, show zal x ≤ 8 by omega, show 1 ≤ zal x by omega]
    · simp [c1, c2, show tn T ≤ zan x by omega]
  · simp [c1]
/-! finding ports -/
/-- a box's port on a net -/
def tpo (T : Tp) (b n : Nat) : Option Nat := (zfst (fun i => tq T b i / 8 == n) (tp T b) 0).map (tq T b)
def tha (T : Tp) (b : Nat) (x : Int32) : Bool := (zfst (fun i => zad (tq T b i) == x) (tp T b) 0).isSome
theorem tp_le {T : Tp} (hc : zTc T) {b : Nat} (hb : b < tb T) : tp T b ≤ 6 := (hc.2.2.2.2.1 b hb).1
theorem tv_24 {T : Tp} (hc : zTc T) {p : Nat} (h : tv T p) : p / 8 < 24 := Nat.lt_of_lt_of_le h.1 hc.2.1
theorem tv_q {T : Tp} (hc : zTc T) {b i : Nat} (hb : b < tb T) (hi : i < tp T b) : tv T (tq T b i) := (hc.2.2.2.2.2.2.1 b i hb hi).1
theorem zc_portOn {z : St} {T : Tp} (h : zTC z T) (hc : zTc T) {b n N : Nat} (hb : b < tb T) (hn : n < 24) (hN : 6 < N) : fX1_portOn N b (Int32.ofNat n) z = some (tpo T b n, z) := by
  have h6 := tp_le hc hb
  obtain ⟨-, -, -, k3, kq, -, -⟩ := h.2.1.2 b hb
  unfold fX1_portOn
  refine (zlf0 (G := fun n' i => fX1_portOn_2 N n' b (Int32.ofNat n) (Int32.ofNat i) z) (p := fun i => tq T b i / 8 == n) (f := fun i => some (some (tq T b i), z)) (r := some (none, z)) (k := tp T b) (by omega) ?_ ?_ ?_).trans ?_
  · intro n' i hi hp
    have hv := tv_q hc hb hi
    obtain ⟨-, q1, -, -, -⟩ := h.2.2.2 _ hv
    have e5 := (h.2.1.1 _ (tv_24 hc hv)).2.1
    have hp : ¬ tq T b i / 8 = n := by simpa using hp
    show fX1_portOn_2b N (fX1_portOn_2 N n') b (Int32.ofNat n) (Int32.ofNat i) z = _
    unfold fX1_portOn_2b
    rw [k3, if_neg (by rw [zo_le (by omega) (by omega)]; omega), zkk (by omega) (by omega), zl_e, zoC (by omega), kq i hi, zd_e, zl_e, q1, zd_e, e5, if_pos (by rw [zo_eq (by have := tv_24 hc hv; omega) (by omega)]; exact hp), zl_e, zo_i1]
  · intro n' i hi hp
    have hv := tv_q hc hb hi
    obtain ⟨-, q1, -, -, -⟩ := h.2.2.2 _ hv
    have e5 := (h.2.1.1 _ (tv_24 hc hv)).2.1
    have hp : tq T b i / 8 = n := by simpa using hp
    show fX1_portOn_2b N (fX1_portOn_2 N n') b (Int32.ofNat n) (Int32.ofNat i) z = _
    unfold fX1_portOn_2b
    rw [k3, if_neg (by rw [zo_le (by omega) (by omega)]; omega), zkk (by omega) (by omega), zl_e, zoC (by omega), kq i hi, zd_e, zl_e, q1, zd_e, e5, if_neg (by rw [hp]; exact fun x => x rfl), zkk (by omega) (by omega), zl_e]
  · intro n'
    show fX1_portOn_2b N (fX1_portOn_2 N n') b (Int32.ofNat n) (Int32.ofNat (tp T b)) z = _
    unfold fX1_portOn_2b
    rw [k3, if_pos (by rw [zo_le (by omega) (by omega)]; omega)]
  · unfold tpo
    cases zfst (fun i => tq T b i / 8 == n) (tp T b) 0 <;> rfl
theorem zc_hasAddress {z : St} {T : Tp} (h : zTC z T) (hc : zTc T) {b N : Nat} (x : Int32) (hb : b < tb T) (hN : 6 < N) : fX1_hasAddress N b x z = some (zbi (tha T b x), z) := by
  have h6 := tp_le hc hb
  obtain ⟨-, -, -, k3, kq, -, -⟩ := h.2.1.2 b hb
  unfold fX1_hasAddress
  refine (zlf0 (G := fun n' i => fX1_hasAddress_2 N n' b x (Int32.ofNat i) z) (p := fun i => zad (tq T b i) == x) (f := fun i => some ((1 : Int32), z)) (r := some ((0 : Int32), z)) (k := tp T b) (by omega) ?_ ?_ ?_).trans ?_
  · intro n' i hi hp
    have hv := tv_q hc hb hi
    obtain ⟨-, -, -, -, q4⟩ := h.2.2.2 _ hv
    have hp : ¬ zad (tq T b i) = x := by simpa using hp
    show fX1_hasAddress_2b N (fX1_hasAddress_2 N n') b x (Int32.ofNat i) z = _
    unfold fX1_hasAddress_2b
    rw [k3, if_neg (by rw [zo_le (by omega) (by omega)]; omega), zkk (by omega) (by omega), zl_e, zoC (by omega), kq i hi, zd_e, q4, if_pos hp, zl_e, zo_i1]
  · intro n' i hi hp
    have hv := tv_q hc hb hi
    obtain ⟨-, -, -, -, q4⟩ := h.2.2.2 _ hv
    have hp : zad (tq T b i) = x := by simpa using hp
    show fX1_hasAddress_2b N (fX1_hasAddress_2 N n') b x (Int32.ofNat i) z = _
    unfold fX1_hasAddress_2b
    rw [k3, if_neg (by rw [zo_le (by omega) (by omega)]; omega), zkk (by omega) (by omega), zl_e, zoC (by omega), kq i hi, zd_e, q4, if_neg (fun c => c hp)]
  · intro n'
    show fX1_hasAddress_2b N (fX1_hasAddress_2 N n') b x (Int32.ofNat (tp T b)) z = _
    unfold fX1_hasAddress_2b
    rw [k3, if_pos (by rw [zo_le (by omega) (by omega)]; omega)]
  · unfold tha
    cases zfst (fun i => zad (tq T b i) == x) (tp T b) 0 <;> rfl
theorem zm_address {w : St} {T : Tp} (h : zTM w T) (hc : zTc T) {p : Nat} (hv : tv T p) (N : Nat) : fX18_address N p w = some (zad p, w) := by
  obtain ⟨-, q2, -, q3⟩ := h.2.2.2 _ hv
  have e := (h.2.1.1 _ hv.1).2.1
  unfold fX18_address
  rw [zl_e, q2, zd_e, e, q3, zad_e (tv_24 hc hv) (by omega)]
  rw [show 8 * (p / 8) + p % 8 = p by omega]
theorem zm_isOwn {w : St} {T : Tp} (h : zTM w T) (hc : zTc T) {b N : Nat} (x : Int32) (hb : b < tb T) (hN : 6 < N) : fX19_isOwn N 0 b x w = some (zbi (tha T b x), w) := by
  have h6 := tp_le hc hb
  obtain ⟨-, -, -, k3, kq⟩ := h.2.1.2 b hb
  unfold fX19_isOwn
  refine (zlf0 (G := fun n' i => fX19_isOwn_2 N n' b x (Int32.ofNat i) w) (p := fun i => zad (tq T b i) == x) (f := fun i => some ((1 : Int32), w)) (r := some ((0 : Int32), w)) (k := tp T b) (by omega) ?_ ?_ ?_).trans ?_
  · intro n' i hi hp
    have hv := tv_q hc hb hi
    have hp : ¬ zad (tq T b i) = x := by simpa using hp
    show fX19_isOwn_2b N (fX19_isOwn_2 N n') b x (Int32.ofNat i) w = _
    unfold fX19_isOwn_2b
    rw [k3, if_neg (by rw [zo_le (by omega) (by omega)]; omega), zkk (by omega) (by omega), zl_e, zoC (by omega), kq i hi, zd_e, zm_address h hc hv, zc_e, if_pos hp, zl_e, zo_i1]
  · intro n' i hi hp
    have hv := tv_q hc hb hi
    have hp : zad (tq T b i) = x := by simpa using hp
    show fX19_isOwn_2b N (fX19_isOwn_2 N n') b x (Int32.ofNat i) w = _
    unfold fX19_isOwn_2b
    rw [k3, if_neg (by rw [zo_le (by omega) (by omega)]; omega), zkk (by omega) (by omega), zl_e, zoC (by omega), kq i hi, zd_e, zm_address h hc hv, zc_e, if_neg (fun c => c hp)]
  · intro n'
    show fX19_isOwn_2b N (fX19_isOwn_2 N n') b x (Int32.ofNat (tp T b)) w = _
    unfold fX19_isOwn_2b
    rw [k3, if_pos (by rw [zo_le (by omega) (by omega)]; omega)]
  · unfold tha
    cases zfst (fun i => zad (tq T b i) == x) (tp T b) 0 <;> rfl
/-- the station of a box on a net, in the model -/
theorem zm_stationOf {w : St} {T : Tp} (h : zTM w T) (hc : zTc T) {b n N : Nat} (hb : b < tb T) (hN : 6 < N) : fX19_stationOf N b n w = some ((match tpo T b n with | some p => Int32.ofNat (p % 8) | none => (-1 : Int32)), w) := by
  have h6 := tp_le hc hb
  obtain ⟨-, -, -, k3, kq⟩ := h.2.1.2 b hb
  unfold fX19_stationOf
  refine (zlf0 (G := fun n' i => fX19_stationOf_2 N n' b n (Int32.ofNat i) w) (p := fun i => tq T b i / 8 == n) (f := fun i => some (Int32.ofNat (tq T b i % 8), w)) (r := some ((-1 : Int32), w)) (k := tp T b) (by omega) ?_ ?_ ?_).trans ?_
  · intro n' i hi hp
    have hv := tv_q hc hb hi
    obtain ⟨-, q2, -, -⟩ := h.2.2.2 _ hv
    have hp : ¬ tq T b i / 8 = n := by simpa using hp
    show fX19_stationOf_2b N (fX19_stationOf_2 N n') b n (Int32.ofNat i) w = _
    unfold fX19_stationOf_2b
    rw [k3, if_neg (by rw [zo_le (by omega) (by omega)]; omega), zkk (by omega) (by omega), zl_e, zoC (by omega), kq i hi, zd_e, zl_e, q2, if_pos (fun c => hp (Option.some.inj c)), zl_e, zo_i1]
  · intro n' i hi hp
    have hv := tv_q hc hb hi
    obtain ⟨-, q2, -, q3⟩ := h.2.2.2 _ hv
    have hp : tq T b i / 8 = n := by simpa using hp
    show fX19_stationOf_2b N (fX19_stationOf_2 N n') b n (Int32.ofNat i) w = _
    unfold fX19_stationOf_2b
    rw [k3, if_neg (by rw [zo_le (by omega) (by omega)]; omega), zkk (by omega) (by omega), zl_e, zoC (by omega), kq i hi, zd_e, zl_e, q2, if_neg (fun c => c (by rw [hp])), zkk (by omega) (by omega), zl_e, zd_e, q3]
  · intro n'
    show fX19_stationOf_2b N (fX19_stationOf_2 N n') b n (Int32.ofNat (tp T b)) w = _
    unfold fX19_stationOf_2b
    rw [k3, if_pos (by rw [zo_le (by omega) (by omega)]; omega)]
  · unfold tpo
    cases zfst (fun i => tq T b i / 8 == n) (tp T b) 0 <;> rfl
/-- the port of an address -/
def tad (T : Tp) (x : Int32) : Option Nat := if zia T x = true ∧ zal x ≤ ts T (zan x) then some (8 * zan x + zal x - 1) else none
theorem tad_some {T : Tp} (hc : zTc T) {x : Int32} {p : Nat} (h : tad T x = some p) : tv T p ∧ x = zad p := by
  unfold tad at h
  by_cases c : zia T x = true ∧ zal x ≤ ts T (zan x)
  · rw [if_pos c] at h
    obtain ⟨c1, c2⟩ := c
    obtain ⟨d1, d2, d3, d4⟩ := zia_iff.mp c1
    obtain rfl : 8 * zan x + zal x - 1 = p := Option.some.inj h
    have h8 := hc.2.2.1 _ d2
    have hn := hc.2.1
    have e1 : (8 * zan x + zal x - 1) / 8 = zan x := by omega
    have e2 : (8 * zan x + zal x - 1) % 8 = zal x - 1 := by omega
    refine ⟨⟨by rw [e1]; exact d2, by rw [e1, e2]; omega⟩, ?_⟩
    rw [show 8 * zan x + zal x - 1 = 8 * zan x + (zal x - 1) by omega]
    exact zad_of d1 rfl (by omega) (by omega) (by omega)
  · rw [if_neg c] at h; cases h
theorem tad_zad {T : Tp} (hc : zTc T) {p : Nat} (h : tv T p) : tad T (zad p) = some p := by
  have h24 := tv_24 hc h
  have h8 := hc.2.2.1 _ h.1
  have := h.2
  unfold tad
  rw [if_pos ⟨zia_iff.mpr ⟨zad_hi h24, by rw [zad_an h24]; exact h.1, by rw [zad_al h24]; omega, by rw [zad_al h24]; omega⟩, by rw [zad_an h24, zad_al h24]; omega⟩, zad_an h24, zad_al h24]
  congr 1
  omega
theorem zc_portOfAddress {z : St} {T : Tp} (h : zTC z T) (hc : zTc T) (N : Nat) (x : Int32) : fX11_portOfAddress N 0 x z = some (tad T x, z) := by
  unfold fX11_portOfAddress tad
  rw [zc_isNetAddress h hc, zc_e, zan_e]
  by_cases c : zia T x = true
  · obtain ⟨d1, d2, d3, d4⟩ := zia_iff.mp c
    have hn := hc.2.1
    have h8 := hc.2.2.1 _ d2
    obtain ⟨e1, -, e3, e4⟩ := h.2.1.1 (zan x) (by omega)
    rw [c, if_neg (by decide), zkk (by omega) (by omega), zl_e, zoC (by omega), e1]
    unfold fX11_portOfAddress_25
    rw [zo_e, zl_e, zal_e, show Int32.ofNat (zal x) - (1 : Int32) = Int32.ofNat (zal x - 1) from zo_s1 (by omega), e3]
    by_cases c2 : zal x ≤ ts T (zan x)
    · rw [if_neg (by rw [zo_le (by omega) (by omega)]; omega), zkk (by omega) (by omega), zl_e, zoC (by omega), e4 _ (by omega), if_pos ⟨rfl, c2⟩]
      congr 3
      omega
    · rw [if_pos (by rw [zo_le (by omega) (by omega)]; omega), if_neg (fun q => c2 q.2)]
  · rw [Bool.eq_false_iff.mpr c, if_pos (by rfl), if_neg (fun q => by cases q.1)]
    rfl
/-- the least station of a net whose box is a router -/
def tlr (T : Tp) (n : Nat) : Option Nat := zfst (fun s => tr T (tw T (8 * n + s))) (ts T n) 0
theorem tv_of {T : Tp} (hc : zTc T) {n s : Nat} (hn : n < tn T) (hs : s < ts T n) : tv T (8 * n + s) := by
  have := hc.2.2.1 _ hn
  have e1 : (8 * n + s) / 8 = n := by omega
  have e2 : (8 * n + s) % 8 = s := by omega
  exact ⟨by rw [e1]; exact hn, by rw [e1, e2]; exact hs⟩
theorem zc_leastRouter {z : St} {T : Tp} (h : zTC z T) (hc : zTc T) {n N : Nat} (hn : n < tn T) (hN : 8 < N) : fX5_leastRouter N n z = some ((match tlr T n with | some s => Int32.ofNat s | none => (-1 : Int32)), z) := by
  have h8 := hc.2.2.1 _ hn
  have h24 := hc.2.1
  obtain ⟨-, -, k8, kq⟩ := h.2.1.1 n (by omega)
  unfold fX5_leastRouter
  refine zlf0 (G := fun n' i => fX5_leastRouter_2 N n' n (Int32.ofNat i) z) (p := fun s => tr T (tw T (8 * n + s))) (f := fun i => some (Int32.ofNat i, z)) (r := some ((-1 : Int32), z)) (k := ts T n) (by omega) ?_ ?_ ?_ |>.trans ?_
  · intro n' i hi hp
    have hv := tv_of hc hn hi
    obtain ⟨q0, -, -, -, -⟩ := h.2.2.2 _ hv
    have e1 := (h.2.1.2 _ (hc.2.2.2.2.2.1 _ hv).1).2.2.1
    show fX5_leastRouter_2b N (fX5_leastRouter_2 N n') n (Int32.ofNat i) z = _
    unfold fX5_leastRouter_2b
    rw [k8, if_neg (by rw [zo_le (by omega) (by omega)]; omega), zkk (by omega) (by omega), zl_e, zoC (by omega), kq i hi, zd_e, zl_e, q0, zd_e, e1, hp, if_pos (by rfl), zl_e, zo_i1]
  · intro n' i hi hp
    have hv := tv_of hc hn hi
    obtain ⟨q0, -, -, -, -⟩ := h.2.2.2 _ hv
    have e1 := (h.2.1.2 _ (hc.2.2.2.2.2.1 _ hv).1).2.2.1
    show fX5_leastRouter_2b N (fX5_leastRouter_2 N n') n (Int32.ofNat i) z = _
    unfold fX5_leastRouter_2b
    rw [k8, if_neg (by rw [zo_le (by omega) (by omega)]; omega), zkk (by omega) (by omega), zl_e, zoC (by omega), kq i hi, zd_e, zl_e, q0, zd_e, e1, hp, if_neg (by decide)]
  · intro n'
    show fX5_leastRouter_2b N (fX5_leastRouter_2 N n') n (Int32.ofNat (ts T n)) z = _
    unfold fX5_leastRouter_2b
    rw [k8, if_pos (by rw [zo_le (by omega) (by omega)]; omega)]
  · unfold tlr
    cases zfst (fun s => tr T (tw T (8 * n + s))) (ts T n) 0 <;> rfl
