/-! routers: thanks are sent, both sides -/
theorem zmd16b : ∀ v, v < 96 → (Int32.ofNat v) - (Int32.ofNat (v / 16)) * (16 : Int32) = Int32.ofNat (v % 16) := by decide +kernel
/-- the fields of a parcel that was begun -/
def zBgF (y : St) (kind : Int32) (len : Nat) : Prop := zgI y 7 2 0 = kind ∧ zgI y 7 4 0 = 1 ∧ zgI y 7 5 0 = 0 ∧ zgI y 7 9 0 = 0 ∧ zgI y 7 10 0 = 0 ∧ zgI y 7 6 0 = Int32.ofNat len ∧ zgI y 7 7 0 = Int32.ofNat len
theorem zBgF_0 {z : St} {kind : Int32} {len : Nat} (hk : kind ≠ 0 ∧ kind ≠ 1) : zBgF (zBg z 0 kind (Int32.ofNat len)) kind len := by
  unfold zBgF
  simp only [zBg_I, if_true]
  refine ⟨by simp, ?_, by simp, by simp, by simp, by simp, by simp⟩
  simp [hk.1, hk.2]
def zAdr (y : St) (b q : Nat) (goal v num : Int32) : St := zsI (zsA (zsI (zsI y 7 0 0 (zad q)) 7 1 0 goal) 113 b 2 v) 7 3 0 num
theorem zAdr_I (y : St) (b q : Nat) (goal v num : Int32) (k j o : Nat) : zgI (zAdr y b q goal v num) k j o = if k = 7 ∧ j = 3 ∧ o = 0 then num else if k = 7 ∧ j = 1 ∧ o = 0 then goal else if k = 7 ∧ j = 0 ∧ o = 0 then zad q else zgI y k j o := by
  unfold zAdr
  rw [zgI_sI]
  show (if _ then _ else zgI (zsI (zsI y 7 0 0 (zad q)) 7 1 0 goal) k j o) = _
  rw [zgI_sI, zgI_sI]
theorem zKd_adr {y : St} {b q : Nat} {goal v num : Int32} : zKd b y (zAdr y b q goal v num) := zKd_tr (zKd_tr (zKd_tr (zKd_I (by omega)) (zKd_I (by omega))) zKd_N) (zKd_I (by omega))
theorem zAdr_n {y : St} {b q : Nat} {goal v num : Int32} : zgA (zAdr y b q goal v num) 113 b 2 = v := by
  show zgA (zsA (zsI (zsI y 7 0 0 (zad q)) 7 1 0 goal) 113 b 2 v) 113 b 2 = v
  rw [zgA_sA, if_pos ⟨rfl, rfl, rfl⟩]
theorem zPC_adr {y : St} {b q len : Nat} {kind goal v num : Int32} (h : zBgF y kind len) : zPC 11 (zAdr y b q goal v num) 0 (dMk q goal kind num len (zgA y 125 0)) := by
  obtain ⟨h2, h4, h5, h9, h10, h6, h7⟩ := h
  refine ⟨fun j hj h8 => ?_, fun i hi => ?_⟩
  · rw [zAdr_I]
    rcases (by omega : j = 0 ∨ j = 1 ∨ j = 2 ∨ j = 3 ∨ j = 4 ∨ j = 5 ∨ j = 6 ∨ j = 7 ∨ j = 9 ∨ j = 10) with rfl | rfl | rfl | rfl | rfl | rfl | rfl | rfl | rfl | rfl
    · rfl
    · rfl
    · exact h2
    · rfl
    · exact h4
    · exact h5
    · exact h6
    · exact h7
    · exact h9
    · exact h10
  · show zgA (zsA (zsI (zsI y 7 0 0 (zad q)) 7 1 0 goal) 113 b 2 v) 125 0 i = zgA y 125 0 (0 + i)
    rw [zgA_sA, if_neg (by omega), Nat.zero_add]; rfl
theorem zc_addr {z : St} {T : Tp} {b key p N : Nat} (hT : zTC z T) (hc : zTc T) (hb : b < tb T) (hk : key < 96) (h1 : key / 16 < tp T b) (h2 : key % 16 < tb T) (hp : tpo T (key % 16) (tq T b (key / 16) / 8) = some p) (hN : 6 < N) : fX11_addressToFriend N 0 b (Int32.ofNat key) z = some (some p, zAdr z b (tq T b (key / 16)) (zad p) (zgA z 113 b 2 + 1) (zgA z 113 b 2)) := by
  obtain ⟨-, -, -, -, kq, -⟩ := hT.2.1.2 b hb
  have v := tv_q hc hb h1
  have v24 := tv_24 hc v
  obtain ⟨pv, -, -, -, -⟩ := tpo_some hc h2 hp
  obtain ⟨-, t1, -, -, t4⟩ := hT.2.2.2 _ v
  obtain ⟨-, -, -, -, u4⟩ := hT.2.2.2 _ pv
  have e13 : zgR z 11 13 0 = some 0 := hT.1.2.2.1
  have e140 := (hT.2.1.2 (key % 16) h2).1
  have e50 : zgI z 5 0 (tq T b (key / 16) / 8) = Int32.ofNat (tq T b (key / 16) / 8) := (hT.2.1.1 _ v24).2.1
  unfold fX11_addressToFriend
  rw [zdv16 key hk, zmd16b key hk, zkk (show key / 16 < 6 by omega) (by omega), zoC (show key / 16 < 2147483648 by omega), zl_e, zkk (show key % 16 < 16 by omega) (by omega), zoC (show key % 16 < 2147483648 by omega), zl_e, kq _ h1, zd_e, zl_e, t1, zd_e, e140, zd_e, e50, zc_portOn (n := tq T b (key / 16) / 8) hT hc h2 (by omega) hN, zc_e, hp, zo_e, zl_e, e13, zd_e, t4, zl_e]
  show zl (zgR z 11 13 0) _ = _
  rw [zl_e, e13, zd_e]
  have p84 : zgI (zsI z 7 0 0 (zad (tq T b (key / 16)))) 8 4 p = zad p := by
    rw [zgI_sI, if_neg (by omega)]; exact u4
  rw [p84, zl_e]
  show zl (zgR z 11 13 0) _ = _
  rw [zl_e, e13, zc_nextNumber, zc_e, zd_e]
  have n2 : zgA (zsI (zsI z 7 0 0 (zad (tq T b (key / 16)))) 7 1 0 (zad p)) 113 b 2 = zgA z 113 b 2 := rfl
  rw [n2, zl_e]
  rfl
/-- the model makes a greeting or a thanking -/
theorem zm_mkPlain {w : St} {T : Tp} {K : Int32 → Int32 → Int32 → Prop} {g : Sg} {X TS TA TB : List Nat} {b q len n N : Nat} {goal kind told : Int32} {B : Nat → Int32} (hc : zTc T) (hX : X.length ≤ 97) (h : zNm w T K g X TS TA TB) (h0 : zgI w 12 0 b = Int32.ofNat b) (h4 : zgI w 12 4 b = Int32.ofNat n) (hl : len ≤ 1480) (hY : (kind = 2 ∧ g2 B 0 = Int32.ofNat b ∧ ∃ k, k ≤ 16 ∧ g2 B 2 = Int32.ofNat k ∧ told = gnm B k) ∨ (kind = 4 ∧ tv T q ∧ tw T q = b ∧ told = (g2 B 0 <<< ((24 : Int32) &&& 31)) ||| g4 B 2)) (hN : 18 < N) :
    ∃ w1 w2 d, fX19_make N 0 b kind (Int32.ofNat len) (zad q) goal w = some (Int32.ofNat d, w1) ∧ fX19_set N 0 (Int32.ofNat d) (12 : Int32) (zgI w1 12 0 b) w1 = some (0, zsA w1 172 0 (18 * d + 12) (Int32.ofNat b)) ∧ fX19_set N 0 (Int32.ofNat d) (13 : Int32) told (zsA w1 172 0 (18 * d + 12) (Int32.ofNat b)) = some (0, w2) ∧ d ∉ X ∧ zNm w2 T K g (d :: X) TS TA TB ∧ zMD w2 T K d (dMk q goal kind (Int32.ofNat n) len B) ∧ zKm X w w2 ∧ zFr 0x8100000000000000000000000000000000040000000000000000000000000000000000000000000000000000000000000000000000000000000000000000000000000000000000000010000000000000000000000000000000000000000000000000000000000000000000000000000000000000000000000000000000000000000000000000000000000000000000000000000000000000000000000000000000000000000000000000 w w2 ∧ (∀ c, zgI w2 12 4 c = if c = b then zgI w 12 4 b + 1 else zgI w 12 4 c) ∧ (∀ k o i, 100 ≤ k → k ≠ 172 → zgA (zsA w1 172 0 (18 * d + 12) (Int32.ofNat b)) k o i = zgA w k o i) ∧ (∀ k o i, 100 ≤ k → k ≠ 172 → zgA w1 k o i = zgA w k o i) := by
  have k01 : ¬ (kind = 0 ∨ kind = 1) := by
    rcases hY with ⟨e, -⟩ | ⟨e, -⟩ <;> rw [e] <;> decide
  obtain ⟨w1, d, r1, r2, r3, r4, r5, r6, r7, r9, r8⟩ := zm_makeN (N := N) (b := b) (kind := kind) (len := Int32.ofNat len) (source := zad q) (goal := goal) hc (by omega) h hN
  have n12 := zm_setN (k := 12) (v := Int32.ofNat b) hc r4 (by omega) (by omega) (by omega)
  have n13 := zm_setN (k := 13) (v := told) hc n12.1 (by omega) (by omega) (by omega)
  let wa : St := zsA w1 172 0 (18 * d + 12) (Int32.ofNat b)
  let w2 : St := zsA wa 172 0 (18 * d + 13) told
  have i0 : zgI w1 12 0 b = Int32.ofNat b := (r9 12 0 b (by omega)).trans ((if_neg (by omega)).trans h0)
  have f2 : zFr 0x8100000000000000000000000000000000040000000000000000000000000000000000000000000000000000000000000000000000000000000000000000000000000000000000000010000000000000000000000000000000000000000000000000000000000000000000000000000000000000000000000000000000000000000000000000000000000000000000000000000000000000000000000000000000000000000000000000 w w2 := zFr_A (zFr_A (zFr_w r7 (by decide)) (by decide)) (by decide)
  have kk : zKm X w w2 := by
    have hd : ∀ {v : Int32} {j : Nat} {a : St}, j < 18 → zKm X a (zsA a 172 0 (18 * d + j) v) := fun {v j a} hj => ⟨fun e k he hk => by rw [md_set hj hk, if_neg (fun y => r3 (by rw [← y.1]; exact he))], fun k i => by rw [zgA_sA, if_neg (fun y => absurd y.1 (by decide))], fun k i => by rw [zgA_sA, if_neg (fun y => absurd y.1 (by decide))], fun _ _ _ => rfl⟩
    exact zKm_tr (zKm_tr r6 (hd (by omega))) (hd (by omega))
  have m2 : ∀ k, k < 18 → md w2 d k = if k = 13 then told else if k = 12 then Int32.ofNat b else md w1 d k := fun k hk => by
    show md (zsA (zsA w1 172 0 (18 * d + 12) (Int32.ofNat b)) 172 0 (18 * d + 13) told) d k = _
    rw [md_set (by omega) hk, md_set (by omega) hk]
    simp only [true_and]
  have A1 : ∀ k o i, 100 ≤ k → k ≠ 172 → zgA w1 k o i = zgA w k o i := fun k o i hk1 hk => by
    by_cases c : (1180 + k) < 1180 + 200
    · have hm : (0x100000000000000000000000000000000040000000000000000000000000000000000000000000000000000000000000000000000000000000000000000000000000000000000000010000000000000000000000000000000000000000000000000000000000000000000000000000000000000000000000000000000000000000000000000000000000000000000000000000000000000000000000000000000000000000000000000).testBit (1180 + k) = false := by
        have : ∀ j, j < 200 → 100 ≤ j → j ≠ 172 → (0x100000000000000000000000000000000040000000000000000000000000000000000000000000000000000000000000000000000000000000000000000000000000000000000000010000000000000000000000000000000000000000000000000000000000000000000000000000000000000000000000000000000000000000000000000000000000000000000000000000000000000000000000000000000000000000000000000).testBit (1180 + j) = false := by decide +kernel
        exact this k (by omega) hk1 hk
      exact zFr_gA r7 hm o i
    · have hm : (0x100000000000000000000000000000000040000000000000000000000000000000000000000000000000000000000000000000000000000000000000000000000000000000000000010000000000000000000000000000000000000000000000000000000000000000000000000000000000000000000000000000000000000000000000000000000000000000000000000000000000000000000000000000000000000000000000000).testBit (1180 + k) = false := Nat.testBit_lt_two_pow (Nat.lt_of_lt_of_le (show 0x100000000000000000000000000000000040000000000000000000000000000000000000000000000000000000000000000000000000000000000000000000000000000000000000010000000000000000000000000000000000000000000000000000000000000000000000000000000000000000000000000000000000000000000000000000000000000000000000000000000000000000000000000000000000000000000000000 < 2 ^ 1380 by decide +kernel) (Nat.pow_le_pow_right (by decide) (by omega)))
      exact zFr_gA r7 hm o i
  obtain ⟨e1, e2, e3⟩ := dMk_w (q := q) (goal := goal) (kind := kind) (num := Int32.ofNat n) (B := B) hl
  have d10 : md w2 d 10 = -1 := by rw [m2 10 (by omega), if_neg (by omega), if_neg (by omega), r5 10 (by omega), if_pos (by omega)]
  have d11 : md w2 d 11 = -1 := by rw [m2 11 (by omega), if_neg (by omega), if_neg (by omega), r5 11 (by omega), if_pos (by omega)]
  have d12 : md w2 d 12 = Int32.ofNat b := by rw [m2 12 (by omega), if_neg (by omega), if_pos rfl]
  have d13 : md w2 d 13 = told := by rw [m2 13 (by omega), if_pos rfl]
  have mm : ∀ k, k < 10 → md w2 d k = md w1 d k := fun k hk => by rw [m2 k (by omega), if_neg (by omega), if_neg (by omega)]
  have k2 : (dMk q goal kind (Int32.ofNat n) len B).1 2 = kind := rfl
  refine ⟨w1, w2, d, r1, ?_, ?_, r3, n13.1, ⟨⟨r2, ?_, ?_, ?_, ?_, ?_⟩, ⟨?_, ?_, ?_, ?_, ?_, by rw [e1]; exact hl⟩, ?_, ?_, ?_, ?_, ?_⟩, kk, f2, fun c => ?_, fun k o i hk1 hk => ?_, A1⟩
  · rw [i0]; exact zm_set (k := 12) r2 (by omega)
  · exact zm_set (k := 13) r2 (by omega)
  · rw [mm 0 (by omega), r5 0 (by omega)]; rfl
  · rw [mm 1 (by omega), r5 1 (by omega)]; rfl
  · rw [mm 2 (by omega), r5 2 (by omega)]; rfl
  · rw [mm 3 (by omega), r5 3 (by omega)]
    exact h4
  · rw [mm 4 (by omega), r5 4 (by omega), if_neg (by omega), if_neg (by omega), if_neg (by omega), if_neg (by omega), if_neg (by omega), if_pos rfl, if_neg k01]; rfl
  · rw [mm 5 (by omega), r5 5 (by omega)]; rfl
  · rw [mm 6 (by omega), r5 6 (by omega)]; rfl
  · rw [mm 7 (by omega), r5 7 (by omega), e1, e2, e3, if_neg (by omega), if_neg (by omega), if_neg (by omega), if_neg (by omega), if_neg (by omega), if_neg (by omega), if_neg (by omega), decide_eq_false (by omega)]; rfl
  · rw [mm 8 (by omega), r5 8 (by omega), e1, e2, if_neg (by omega), if_neg (by omega), if_neg (by omega), if_neg (by omega), if_neg (by omega), if_neg (by omega), if_neg (by omega), decide_eq_false (by omega)]; rfl
  · rw [mm 9 (by omega), r5 9 (by omega)]; rfl
  · intro y
    rw [k2] at y
    exact absurd (Or.inr y) k01
  · intro y
    rw [k2] at y
    exact absurd (Or.inl y) k01
  · intro y
    rw [k2] at y
    rcases hY with ⟨-, a1, k, a2, a3, a4⟩ | ⟨e, -⟩
    · exact ⟨d10, d11, by rw [d12]; exact a1.symm, k, a2, a3, by rw [d13]; exact a4⟩
    · rw [e] at y; exact absurd y (by decide)
  · intro y
    rw [k2] at y
    rcases hY with ⟨e, -⟩ | ⟨e, -⟩
    · rw [e] at y; exact absurd y (by decide)
    · rw [e] at y; exact absurd y (by decide)
  · intro y
    rw [k2] at y
    rcases hY with ⟨e, -⟩ | ⟨-, a1, a2, a3⟩
    · rw [e] at y; exact absurd y (by decide)
    · exact ⟨d10, d11, ⟨q, a1, rfl, by rw [d12, a2]⟩, by rw [d13]; exact a3⟩
  · show zgI w1 12 4 c = _
    rw [r9 12 4 c (by omega)]
    simp only [true_and]
  · rw [zgA_sA, if_neg (fun y => hk y.1)]; exact A1 k o i hk1 hk
