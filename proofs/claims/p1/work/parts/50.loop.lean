/-! counted loops of constructors -/
section ZKL
variable {p : Program} {l : Launch} {e : Env} {R : Room} {s : State} {m : MethodId} {args : Array Value} {below : List Frame} {meth : Method} {c : Code} {H : Heap} {locs : List Loc} {Q : State → Prop}
variable {nL hd : Nat} {ls : Array Slot} {D : va_G} {cy : Nat → ClassId} {B : Nat → Nat → Nat} {ids : List (Nat × Nat)} {A : Nat → Prop} {z : St}
theorem zc_loop {τ : Type} {Inv : Nat → τ → Prop} {CS : τ → va_W} {LV : Nat → List (Nat × Value)} (N c0 dc s0 ds : Nat) (t0 : τ) (h0 : Inv 0 t0)
    (step : ∀ (k : Nat) (t : τ), k < N → Inv k t → (∀ (t' : τ) (H : Heap) (locs : List Loc) (ls : Array Slot), Inv (k + 1) t' → zRC D cy B ids A s.heap z (CS t') H locs → lv_has ls nL (LV (k + 1)) → W p l e R s m args below meth c H locs (c0 + dc * (k + 1)) (s0 + ds * (k + 1)) Q (F0 m hd ls [])) →
      ∀ (H : Heap) (locs : List Loc) (ls : Array Slot), zRC D cy B ids A s.heap z (CS t) H locs → lv_has ls nL (LV k) → W p l e R s m args below meth c H locs (c0 + dc * k) (s0 + ds * k) Q (F0 m hd ls []))
    (exit : ∀ (t : τ) (H : Heap) (locs : List Loc) (ls : Array Slot), Inv N t → zRC D cy B ids A s.heap z (CS t) H locs → lv_has ls nL (LV N) → W p l e R s m args below meth c H locs (c0 + dc * N) (s0 + ds * N) Q (F0 m hd ls []))
    (hr : zRC D cy B ids A s.heap z (CS t0) H locs) (hl : lv_has ls nL (LV 0)) : W p l e R s m args below meth c H locs c0 s0 Q (F0 m hd ls []) := by
  have go : ∀ (j k : Nat), j + k = N → ∀ (t : τ) (H : Heap) (locs : List Loc) (ls : Array Slot), Inv k t → zRC D cy B ids A s.heap z (CS t) H locs → lv_has ls nL (LV k) → W p l e R s m args below meth c H locs (c0 + dc * k) (s0 + ds * k) Q (F0 m hd ls []) := by
    intro j
    induction j with
    | zero =>
      intro k hk t H locs ls hi hr hl
      have hk : k = N := by omega
      subst hk
      exact exit t H locs ls hi hr hl
    | succ j ih =>
      intro k hk t H locs ls hi hr hl
      exact step k t (by omega) hi (fun t' H locs ls h1 h2 h3 => ih (k + 1) (by omega) t' H locs ls h1 h2 h3) H locs ls hr hl
  have h := go N 0 rfl t0 H locs ls h0 hr hl
  rw [Nat.mul_zero, Nat.mul_zero, Nat.add_zero, Nat.add_zero] at h
  exact h
end ZKL
theorem zupd_fill {k : Nat} {v w : Int32} {x : Int32} (hx : x.toNatClampNeg = k) : upd (fun i => if i < k then v else w) x.toNatClampNeg v = fun i => if i < k + 1 then v else w := by
  funext i
  rw [hx]
  unfold upd
  by_cases h : i = k
  · subst h; simp
  · by_cases h2 : i < k
    · simp [h, h2, Nat.lt_succ_of_lt h2]
    · simp [h, h2, show ¬ i < k + 1 by omega]
theorem zof_lt {k N : Nat} (h : k < N) (hN : N < 2147483648) : (Int32.ofNat k).toNatClampNeg = k ∧ vp_in (Int32.ofNat k) N ∧ ¬ Int32.ofNat N ≤ Int32.ofNat k ∧ Int32.ofNat k + Int32.ofInt 1 = Int32.ofNat (k + 1) := by
  have h1 : (Int32.ofNat k).toNatClampNeg = k := Int32.toNatClampNeg_ofNat_of_lt (by omega)
  have h2 : ¬ Int32.ofNat k < 0 := by
    intro hc
    have := Int32.lt_iff_toInt_lt.mp hc
    rw [Int32.toInt_ofNat_of_lt (by omega)] at this
    have h0 : (0 : Int32).toInt = 0 := rfl
    omega
  refine ⟨h1, fun q => ?_, fun q => ?_, ?_⟩
  · rcases q with q | q
    · exact h2 q
    · omega
  · have := Int32.le_iff_toInt_le.mp q
    rw [Int32.toInt_ofNat_of_lt (by omega), Int32.toInt_ofNat_of_lt (by omega)] at this
    omega
  · rw [Int32.ofNat_add]; rfl
