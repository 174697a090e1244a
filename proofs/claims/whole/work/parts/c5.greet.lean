/-! routers: greetings are sent, both sides -/
/-- who is heard on a port -/
def pNm (H : List Nb) (i : Nat) : List Nat := (H.filter (fun n => n.1 / 16 == i)).map (fun n => n.1 % 16)
def nmL (P : List Nat) : Int32 := P.foldl (fun a x => a ||| ((1 : Int32) <<< (Int32.ofNat x &&& 31))) 0
theorem nmL_app (P : List Nat) (x : Nat) : nmL (P ++ [x]) = nmL P ||| ((1 : Int32) <<< (Int32.ofNat x &&& 31)) := by
  unfold nmL
  rw [List.foldl_append]; rfl
theorem gnm_nm {B : Nat → Int32} {P : List Nat} (h : ∀ j x, P[j]? = some x → g2 B (8 + 2 * j) = Int32.ofNat x) : ∀ k, k ≤ P.length → gnm B k = nmL (P.take k) := by
  intro k
  induction k with
  | zero => intro _; rw [List.take_zero]; rfl
  | succ k ih =>
    intro hk
    have g : P[k]? = some P[k] := List.getElem?_eq_getElem (by omega)
    rw [List.take_succ, g]
    show gnm B k ||| ((1 : Int32) <<< (g2 B (8 + 2 * k) &&& 31)) = nmL (P.take k ++ [P[k]])
    rw [nmL_app, ih (by omega), h k _ g]
theorem pNm_app (A B : List Nb) (i : Nat) : pNm (A ++ B) i = pNm A i ++ pNm B i := by
  unfold pNm
  rw [List.filter_append, List.map_append]
theorem pNm_len (H : List Nb) (i : Nat) : (pNm H i).length ≤ H.length := by
  unfold pNm
  rw [List.length_map]
  exact List.length_filter_le _ _
theorem pNm_lt {H : List Nb} {i x : Nat} (h : x ∈ pNm H i) : x < 16 := by
  obtain ⟨n, -, e⟩ := List.mem_map.mp h
  rw [← e]; exact Nat.mod_lt _ (by decide)
theorem pNm_1 (n : Nb) (i : Nat) : pNm [n] i = if n.1 / 16 = i then [n.1 % 16] else [] := by
  unfold pNm
  by_cases c : n.1 / 16 = i
  · rw [if_pos c]; simp [c]
  · rw [if_neg c]; simp [c]
theorem zc_greet {z : St} {T : Tp} {b i num N : Nat} {H : List Nb} {x3 : Int32} {K7 : Nat → Nat → Option Nat → Int32 → St → Option (Int32 × St)} (hT : zTC z T) (hc : zTc T) (hb : b < tb T) (hi : i < tp T b) (hh : zRCh z b H) (hH : zHk H) (hn : zgA z 113 b 2 = Int32.ofNat num) (hN : 16 < N) :
    ∃ z' B, (zc (fX7_begin N 0 (2 : Int32) (8 : Int32) z) fun _ z11 => fX11_sendGreetings_53 N K7 N 0 b (some b) x3 (tq T b i) (0 : Int32) (0 : Int32) z11) = (zc (fX11_putOn N 0 (tq T b i) (-1 : Int32) 0 z') fun _ z37 => fX11_sendGreetings_194 N K7 0 b (some b) x3 z37) ∧ zKd b z z' ∧ zgA z' 113 b 2 = Int32.ofNat num + 1 ∧ zPC 11 z' 0 (dMk (tq T b i) 0 2 (Int32.ofNat num) (8 + 2 * (pNm H i).length) B) ∧ g2 B 0 = Int32.ofNat b ∧ g2 B 2 = Int32.ofNat (pNm H i).length ∧ ∀ j x, (pNm H i)[j]? = some x → g2 B (8 + 2 * j) = Int32.ofNat x := by
  have h16 := hH.2.2
  have hb16 : b < 16 := Nat.lt_of_lt_of_le hb hc.1
  have hlen := pNm_len H i
  have t6 := tp_le hc hb
  have v := tv_q hc hb hi
  obtain ⟨-, -, q82, -, q84⟩ := hT.2.2.2 _ v
  have q82 : zgI z 8 2 (tq T b i) = Int32.ofNat i := by rw [q82, (hc.2.2.2.2.2.2.1 b i hb hi).2.2]
  have k10 : zgI z 1 0 b = Int32.ofNat b := (hT.2.1.2 b hb).2.1
  have e82 : ∀ k : Nat, (8 : Int32) + (2 : Int32) * Int32.ofNat k = Int32.ofNat (8 + 2 * k) := fun k => by
    rw [show (2 : Int32) * Int32.ofNat k = Int32.ofNat (2 * k) from (Int32.ofNat_mul 2 k).symm]
    exact zo_add 8 (2 * k)
  have loop : ∀ (C A : List Nb) (nn : Nat) (y : St), A ++ C = H → C.length < nn → zKd b z y → zBgF y 2 8 → zgA y 113 b 2 = Int32.ofNat num → (∀ j x, (pNm A i)[j]? = some x → g2 (zgA y 125 0) (8 + 2 * j) = Int32.ofNat x) → ∃ z' B, fX11_sendGreetings_53 N K7 nn 0 b (some b) x3 (tq T b i) (Int32.ofNat (pNm A i).length) (Int32.ofNat A.length) y = (zc (fX11_putOn N 0 (tq T b i) (-1 : Int32) 0 z') fun _ z37 => fX11_sendGreetings_194 N K7 0 b (some b) x3 z37) ∧ zKd b z z' ∧ zgA z' 113 b 2 = Int32.ofNat num + 1 ∧ zPC 11 z' 0 (dMk (tq T b i) 0 2 (Int32.ofNat num) (8 + 2 * (pNm H i).length) B) ∧ g2 B 0 = Int32.ofNat b ∧ g2 B 2 = Int32.ofNat (pNm H i).length ∧ ∀ j x, (pNm H i)[j]? = some x → g2 B (8 + 2 * j) = Int32.ofNat x := by
    intro C
    induction C with
    | nil =>
      intro A nn y e hn' kd fB nm hB
      obtain ⟨nn, rfl⟩ : ∃ k, nn = k + 1 := ⟨nn - 1, by omega⟩
      rw [List.append_nil] at e
      subst e
      generalize hk : (pNm A i).length = k at *
      obtain ⟨y1, h1⟩ : ∃ u, u = zsC y 125 0 (p2 (zgA y 125 0) 0 (Int32.ofNat b)) := ⟨_, rfl⟩
      obtain ⟨y2, h2⟩ : ∃ u, u = zsC y1 125 0 (p2 (zgA y1 125 0) 2 (Int32.ofNat k)) := ⟨_, rfl⟩
      obtain ⟨y3, h3⟩ : ∃ u, u = zsI (zsI y2 7 6 0 (Int32.ofNat (8 + 2 * k))) 7 7 0 (Int32.ofNat (8 + 2 * k)) := ⟨_, rfl⟩
      have q1 : fX7_put2 N 0 (0 : Int32) (Int32.ofNat b) y = some (0, y1) := by rw [h1]; exact zc_put2 (i := 0) (by decide)
      have q2 : fX7_put2 N 0 (2 : Int32) (Int32.ofNat k) y1 = some (0, y2) := by rw [h2]; exact zc_put2 (i := 2) (by decide)
      have q3 : fX7_setLength N 0 (Int32.ofNat (8 + 2 * k)) y2 = some (0, y3) := by
        unfold fX7_setLength
        rw [zl_e, zl_e, h3]
      have kd1 : zKd b z y1 := zKd_tr kd (by rw [h1]; exact zKd_C)
      have kd2 : zKd b z y2 := zKd_tr kd1 (by rw [h2]; exact zKd_C)
      have kd3 : zKd b z y3 := zKd_tr kd2 (by rw [h3]; exact zKd_tr (zKd_I (by omega)) (zKd_I (by omega)))
      have f2 : zBgF y2 2 8 := by rw [h2, h1]; exact zBgF_C (zBgF_C fB)
      have f3 : zBgF y3 2 (8 + 2 * k) := by
        obtain ⟨a2, a4, a5, a9, a10, -, -⟩ := f2
        have I3 : ∀ j, zgI y3 7 j 0 = if j = 7 then Int32.ofNat (8 + 2 * k) else if j = 6 then Int32.ofNat (8 + 2 * k) else zgI y2 7 j 0 := fun j => by
          rw [h3, zgI_sI, zgI_sI]
          simp only [true_and, and_true]
        unfold zBgF
        rw [I3, I3, I3, I3, I3, I3, I3]
        exact ⟨a2, a4, a5, a9, a10, rfl, rfl⟩
      have B3 : zgA y3 125 0 = p2 (p2 (zgA y 125 0) 0 (Int32.ofNat b)) 2 (Int32.ofNat k) := by
        have e1 : zgA y3 125 0 = zgA y2 125 0 := by rw [h3]; rfl
        rw [e1, h2, zgA_sCs, h1, zgA_sCs]
      have n3 : zgA y3 113 b 2 = Int32.ofNat num := by
        have e1 : zgA y3 113 b 2 = zgA y2 113 b 2 := by rw [h3]; rfl
        rw [e1, h2, zgA_sC, if_neg (by omega), h1, zgA_sC, if_neg (by omega)]; exact nm
      obtain ⟨y4, h4⟩ : ∃ u, u = zAdr y3 b (tq T b i) 0 (Int32.ofNat num + 1) (Int32.ofNat num) := ⟨_, rfl⟩
      refine ⟨y4, p2 (p2 (zgA y 125 0) 0 (Int32.ofNat b)) 2 (Int32.ofNat k), ?_, zKd_tr kd3 (by rw [h4]; exact zKd_adr), by rw [h4, zAdr_n], by rw [h4, ← B3]; exact zPC_adr f3, ?_, ?_, fun j x hj => ?_⟩
      · show fX11_sendGreetings_53b N K7 (fX11_sendGreetings_53 N K7 nn) 0 b (some b) x3 (tq T b i) (Int32.ofNat k) (Int32.ofNat A.length) y = _
        unfold fX11_sendGreetings_53b
        have e91 : zgI y 9 1 b = Int32.ofNat A.length := (kd.1 9 1 b (by omega)).trans hh.1
        have e10 : zgI y 1 0 b = Int32.ofNat b := (kd.1 1 0 b (by omega)).trans k10
        have e84 : zgI y3 8 4 (tq T b i) = zad (tq T b i) := (kd3.1 8 4 _ (by omega)).trans q84
        have e13 : zgR y3 11 13 0 = some 0 := ze13 hT kd3
        rw [zd_e, e91, if_pos (Int32.le_refl _), zl_e, ze13 hT kd, zd_e, e10, q1, zc_e, ze13 hT kd1, zl_e, zd_e, q2, zc_e, ze13 hT kd2, zl_e, zd_e, e82, q3, zc_e, e13, zl_e, zd_e, e84, zl_e]
        show zl (zgR y3 11 13 0) _ = _
        rw [e13, zl_e, zd_e, zl_e]
        show zl (zgR y3 11 13 0) _ = _
        rw [e13, zl_e, zc_nextNumber, zc_e, zd_e]
        have nn2 : zgA (zsI (zsI y3 7 0 0 (zad (tq T b i))) 7 1 0 (0 : Int32)) 113 b 2 = Int32.ofNat num := n3
        rw [nn2, zl_e]
        show zl (zgR y3 11 13 0) _ = _
        rw [e13, zl_e, zd_e, h4]
        rfl
      · rw [g2_o2 _ _ (by omega), g2_p2, zof_and (by omega)]
      · rw [g2_p2, zof_and (by omega)]
      · rw [g2_o2 _ _ (by omega), g2_o2 _ _ (by omega)]; exact hB j x hj
    | cons n C ih =>
      intro A nn y e hn' kd fB nm hB
      obtain ⟨nn, rfl⟩ : ∃ k, nn = k + 1 := ⟨nn - 1, by omega⟩
      have hl : A.length < H.length := by rw [← e, List.length_append, List.length_cons]; omega
      have hget : H[A.length]? = some n := by rw [← e, List.getElem?_append_right (Nat.le_refl _), Nat.sub_self]; rfl
      have n96 := (hH.1 n (List.mem_of_getElem? hget)).1
      have e' : (A ++ [n]) ++ C = H := by rw [List.append_assoc]; exact e
      have e131 : zgA y 131 b A.length = Int32.ofNat n.1 := (kd.2.1 131 b _ (by omega) (by omega)).trans (hh.2 _ _ hget)
      have e91 : zgI y 9 1 b = Int32.ofNat H.length := (kd.1 9 1 b (by omega)).trans hh.1
      have e82' : zgI y 8 2 (tq T b i) = Int32.ofNat i := (kd.1 8 2 _ (by omega)).trans q82
      have hA := pNm_len A i
      have step : ∀ (x : Int32) (y' : St), fX11_sendGreetings_110 N K7 (fX11_sendGreetings_53 N K7 nn) 0 b b x3 (tq T b i) x (Int32.ofNat A.length) y' = fX11_sendGreetings_53 N K7 nn 0 b (some b) x3 (tq T b i) x (Int32.ofNat (A ++ [n]).length) y' := fun x y' => by
        unfold fX11_sendGreetings_110
        rw [zo_i1, zl_e, List.length_append]; rfl
      by_cases c : n.1 / 16 = i
      · have ep : pNm (A ++ [n]) i = pNm A i ++ [n.1 % 16] := by rw [pNm_app, pNm_1, if_pos c]
        obtain ⟨y1, h1⟩ : ∃ u, u = zsC y 125 0 (p2 (zgA y 125 0) (8 + 2 * (pNm A i).length) (Int32.ofNat (n.1 % 16))) := ⟨_, rfl⟩
        have q1 : fX7_put2 N 0 (Int32.ofNat (8 + 2 * (pNm A i).length)) (Int32.ofNat (n.1 % 16)) y = some (0, y1) := by rw [h1]; exact zc_put2 (by omega)
        obtain ⟨z', B, s1, s2⟩ := ih (A ++ [n]) nn y1 e' (by rw [List.length_cons] at hn'; omega) (zKd_tr kd (by rw [h1]; exact zKd_C)) (by rw [h1]; exact zBgF_C fB) (by rw [h1, zgA_sC, if_neg (by omega)]; exact nm) (fun j x hj => by
          rw [h1, zgA_sCs]
          rw [ep] at hj
          by_cases cj : j < (pNm A i).length
          · rw [List.getElem?_append_left cj] at hj
            rw [g2_o2 _ _ (by omega)]; exact hB j x hj
          · rw [List.getElem?_append_right (by omega)] at hj
            have hj0 : j - (pNm A i).length = 0 := by
              have := (List.getElem?_eq_some_iff.mp hj).1
              simpa using this
            rw [hj0] at hj
            have : n.1 % 16 = x := Option.some.inj hj
            have ej : j = (pNm A i).length := by omega
            rw [← this, ej, g2_p2, zof_and (by omega)])
        refine ⟨z', B, ?_, s2⟩
        show fX11_sendGreetings_53b N K7 (fX11_sendGreetings_53 N K7 nn) 0 b (some b) x3 (tq T b i) (Int32.ofNat (pNm A i).length) (Int32.ofNat A.length) y = _
        unfold fX11_sendGreetings_53b
        rw [zd_e, e91, if_neg (by rw [zo_le (by omega) (by omega)]; omega), zkk (show A.length < 16 by omega) (by omega), zoC (show A.length < 2147483648 by omega), e131, zdv16 n.1 n96, e82', if_pos (by rw [c]), zl_e, ze13 hT kd, zkk (show A.length < 16 by omega) (by omega), zd_e, zmd16b n.1 n96, e82, q1, zc_e, zo_i1, zl_e, step]
        rw [show (pNm A i).length + 1 = (pNm (A ++ [n]) i).length from by rw [ep, List.length_append]; rfl]
        exact s1
      · have ep : pNm (A ++ [n]) i = pNm A i := by rw [pNm_app, pNm_1, if_neg c, List.append_nil]
        obtain ⟨z', B, s1, s2⟩ := ih (A ++ [n]) nn y e' (by rw [List.length_cons] at hn'; omega) kd fB nm (by rw [ep]; exact hB)
        refine ⟨z', B, ?_, s2⟩
        show fX11_sendGreetings_53b N K7 (fX11_sendGreetings_53 N K7 nn) 0 b (some b) x3 (tq T b i) (Int32.ofNat (pNm A i).length) (Int32.ofNat A.length) y = _
        unfold fX11_sendGreetings_53b
        rw [zd_e, e91, if_neg (by rw [zo_le (by omega) (by omega)]; omega), zkk (show A.length < 16 by omega) (by omega), zoC (show A.length < 2147483648 by omega), e131, zdv16 n.1 n96, e82', if_neg (by rw [zo_eq (by omega) (by omega)]; exact c), step]
        rw [← ep]
        exact s1
  obtain ⟨z1, h1⟩ : ∃ u, u = zBg z 0 2 (Int32.ofNat 8) := ⟨_, rfl⟩
  have q1 : fX7_begin N 0 (2 : Int32) (8 : Int32) z = some (0, z1) := by rw [h1]; exact zc_begin0
  obtain ⟨z', B, s1, s2⟩ := loop H [] N z1 rfl (by omega) (by rw [h1]; exact zKd_Bg) (by rw [h1]; exact zBgF_0 (by decide)) (by rw [h1]; exact hn) (fun j x hj => by cases hj)
  refine ⟨z', B, ?_, s2⟩
  rw [q1, zc_e]
  exact s1
theorem zm_greetLoop {w : St} {T : Tp} {b i N : Nat} {H : List Nb} {ids : Nat → Nat} (hT : zTM w T) (hc : zTc T) (hb : b < tb T) (hi : i < tp T b) (hM : zRmI w b H ids) (hH : zHk H) (hN : 16 < N) :
    fX19_greet N 0 b (Int32.ofNat i) w = (zc (fX18_address N (tq T b i) w) fun r3 z4 => zc (fX19_make N 0 b (2 : Int32) ((8 : Int32) + ((2 : Int32) * Int32.ofNat (pNm H i).length)) r3 (0 : Int32) z4) fun r7 z8 => zc (fX19_set N 0 r7 (12 : Int32) (zgI z8 12 0 b) z8) fun _ z12 => zc (fX19_set N 0 r7 (13 : Int32) (nmL (pNm H i)) z12) fun _ z16 => zc (fX19_carry N 0 (tq T b i) (-1 : Int32) r7 z16) fun _ z20 => zc (fX19_drop N 0 r7 z20) fun _ z24 => some (0, z24)) := by
  have h16 := hH.2.2
  have t6 := tp_le hc hb
  have loop : ∀ (C A : List Nb) (nn : Nat), A ++ C = H → C.length < nn → fX19_greet_16 N nn 0 b (Int32.ofNat i) (some (tq T b i)) (nmL (pNm A i)) (Int32.ofNat (pNm A i).length) (Int32.ofNat A.length) w = (zc (fX18_address N (tq T b i) w) fun r3 z4 => zc (fX19_make N 0 b (2 : Int32) ((8 : Int32) + ((2 : Int32) * Int32.ofNat (pNm H i).length)) r3 (0 : Int32) z4) fun r7 z8 => zc (fX19_set N 0 r7 (12 : Int32) (zgI z8 12 0 b) z8) fun _ z12 => zc (fX19_set N 0 r7 (13 : Int32) (nmL (pNm H i)) z12) fun _ z16 => zc (fX19_carry N 0 (tq T b i) (-1 : Int32) r7 z16) fun _ z20 => zc (fX19_drop N 0 r7 z20) fun _ z24 => some (0, z24)) := by
    intro C
    induction C with
    | nil =>
      intro A nn e hn
      obtain ⟨nn, rfl⟩ : ∃ k, nn = k + 1 := ⟨nn - 1, by omega⟩
      rw [List.append_nil] at e
      subst e
      show fX19_greet_16b N (fX19_greet_16 N nn) 0 b (Int32.ofNat i) (some (tq T b i)) (nmL (pNm A i)) (Int32.ofNat (pNm A i).length) (Int32.ofNat A.length) w = _
      unfold fX19_greet_16b
      rw [hM.1.1, if_pos (Int32.le_refl _), zd_e]
    | cons n C ih =>
      intro A nn e hn
      obtain ⟨nn, rfl⟩ : ∃ k, nn = k + 1 := ⟨nn - 1, by omega⟩
      have hl : A.length < H.length := by rw [← e, List.length_append, List.length_cons]; omega
      have hget : H[A.length]? = some n := by rw [← e, List.getElem?_append_right (Nat.le_refl _), Nat.sub_self]; rfl
      have n96 := (hH.1 n (List.mem_of_getElem? hget)).1
      have e' : (A ++ [n]) ++ C = H := by rw [List.append_assoc]; exact e
      obtain ⟨b0, b1, -, -, -⟩ := hM.2.2 A.length n hget
      have iQ := (hM.1.2.1 A.length (by omega)).2.2
      have := ih (A ++ [n]) nn e' (by rw [List.length_cons] at hn; omega)
      rw [← this]
      have step : ∀ (x y : Int32), fX19_greet_59 N (fX19_greet_16 N nn) 0 b (Int32.ofNat i) (some (tq T b i)) x y (Int32.ofNat A.length) w = fX19_greet_16 N nn 0 b (Int32.ofNat i) (some (tq T b i)) x y (Int32.ofNat (A ++ [n]).length) w := fun x y => by
        unfold fX19_greet_59
        rw [zo_i1, zl_e, List.length_append]; rfl
      show fX19_greet_16b N (fX19_greet_16 N nn) 0 b (Int32.ofNat i) (some (tq T b i)) (nmL (pNm A i)) (Int32.ofNat (pNm A i).length) (Int32.ofNat A.length) w = _
      unfold fX19_greet_16b
      rw [hM.1.1, if_neg (by rw [zo_le (by omega) (by omega)]; omega), zkk (show A.length < 16 by omega) (by omega), zoC (show A.length < 2147483648 by omega), iQ, zl_e, zd_e, b0]
      by_cases c : n.1 / 16 = i
      · have ep : pNm (A ++ [n]) i = pNm A i ++ [n.1 % 16] := by rw [pNm_app, pNm_1, if_pos c]
        have el : (pNm A i ++ [n.1 % 16]).length = (pNm A i).length + 1 := by rw [List.length_append]; rfl
        rw [if_neg (show ¬ ¬ Int32.ofNat (n.1 / 16) = Int32.ofNat i from fun y => y (by rw [c])), zkk (show A.length < 16 by omega) (by omega), zl_e, zd_e, b1, zl_e, zo_i1, zl_e, step, ep, nmL_app, el]
      · have ep : pNm (A ++ [n]) i = pNm A i := by rw [pNm_app, pNm_1, if_neg c, List.append_nil]
        rw [if_pos (show ¬ Int32.ofNat (n.1 / 16) = Int32.ofNat i from fun y => c ((zo_eq (by omega) (by omega)).mp y)), step, ep]
  unfold fX19_greet
  rw [zkk (show i < 6 by omega) (by omega), zoC (show i < 2147483648 by omega), zl_e, (hT.2.1.2 b hb).2.2.2.2 i hi]
  exact loop H [] N rfl (by omega)
theorem zp_greet1 {Q : Qt} {z w : St} {T : Tp} {E : Ev} {g : Sg} {Wy : Wyt} {R : Rg} {mk : Nat → Nat} {K : Int32 → Int32 → Int32 → Prop} {TS TA TB : List Nat} {b i N : Nat} {H : List Nb} {ids : Nat → Nat} {x3 : Int32} {K7 : Nat → Nat → Option Nat → Int32 → St → Option (Int32 × St)} (hp : zIp z w T E g g Wy R mk K [] [] TS TA TB) (hb : b < tb T) (hm : mk b < 2147483646) (hok : zRok Q T R) (hi : i < tp T b) (hC : zRCh z b H) (hM : zRmI w b H ids) (hH : zHk H) (hN : 1481 < N) :
    ∃ z' w' g' R', (zc (fX7_begin N 0 (2 : Int32) (8 : Int32) z) fun _ z11 => fX11_sendGreetings_53 N K7 N 0 b (some b) x3 (tq T b i) (0 : Int32) (0 : Int32) z11) = fX11_sendGreetings_194 N K7 0 b (some b) x3 z' ∧ fX19_greet N 0 b (Int32.ofNat i) w = some (0, w') ∧ zIp z' w' T E g' g' Wy R' (zupd mk b (mk b + 1)) K [] [] TS TA TB ∧ zRok Q T R' ∧ (∀ c n v, R c n = some v → R' c n = some v) ∧ zRch T E b (PDr Q T) g g' ∧ (∀ c, zFC c z z') ∧ ∀ c, zFM c w w' := by
  have hT := hp.1.1.1
  have hc := hp.1.1.2.1
  have hMT := hp.1.2.1.1
  have h16 := hH.2.2
  have hlen := pNm_len H i
  have v := tv_q hc hb hi
  have vw := (hc.2.2.2.2.2.2.1 b i hb hi).2.1
  obtain ⟨z4, B, c1, kd4, t4, D4, B0, B2, Bn⟩ := zc_greet (x3 := x3) (K7 := K7) (N := N) hT hc hb hi hC hH (hp.2.1.2 b hb).1 (by omega)
  have w0 : zgI w 12 0 b = Int32.ofNat b := (hMT.2.1.2 b hb).2.1
  have w4 : zgI w 12 4 b = Int32.ofNat (mk b) := by rw [← (hp.1.2.2.2.2.2.2.1 b hb).1]; exact (hp.2.1.2 b hb).1
  have eg : nmL (pNm H i) = gnm B (pNm H i).length := by rw [gnm_nm Bn _ (Nat.le_refl _), List.take_length]
  obtain ⟨w1, w2, d, r1, r2, r3, r4, r5, r6, r7, r8, r9, r10, r11⟩ := zm_mkPlain (q := tq T b i) (len := 8 + 2 * (pNm H i).length) (n := mk b) (goal := 0) (kind := 2) (told := nmL (pNm H i)) (B := B) (N := N) hc (by simp) hp.1.2.1.2.2.2.2.1.2.2 w0 w4 (by omega) (Or.inl ⟨rfl, B0, (pNm H i).length, by omega, B2, eg⟩) (by omega)
  obtain ⟨hp1, hPD, mono⟩ := zIp_made (len := 8 + 2 * (pNm H i).length) (q := tq T b i) (goal := 0) (kind := 2) (B := B) hp hb hm v vw (by decide) (by omega) (by omega) kd4 (by rw [t4, (hp.2.1.2 b hb).1]) r5 r8 r9
  have kk : (dMk (tq T b i) 0 2 (Int32.ofNat (mk b)) (8 + 2 * (pNm H i).length) B).1 2 = 2 := rfl
  have rk : zRkD Q T (tq T b i) (dMk (tq T b i) 0 2 (Int32.ofNat (mk b)) (8 + 2 * (pNm H i).length) B) := Or.inl ⟨rfl, (pNm H i).length, by omega, by rw [vw]; exact B0, B2, (dMk_w (by omega)).1, fun j hj => by
    have gj : (pNm H i)[j]? = some (pNm H i)[j] := List.getElem?_eq_getElem hj
    exact ⟨_, pNm_lt (List.mem_of_getElem? gj), Bn j _ gj⟩⟩
  obtain ⟨z5, w3, s1, s2, s3, s4, s5, s6, s7⟩ := zIp_put (to := -1) (N := N) hp1 v (Or.inl rfl) D4 hPD (by rw [kk]; decide) List.mem_cons_self (by simp) r6 hN
  obtain ⟨w5, u1, u2, u3, u4⟩ := zIp_drop (N := N) s3
  rw [vw] at s3 u2
  refine ⟨z5, w5, _, _, ?_, ?_, u2, zRok_new v vw rfl rk hok, mono, ?_, fun c => ?_, fun c => ?_⟩
  · rw [c1, s1, zc_e]
  · have e82 : (8 : Int32) + (2 : Int32) * Int32.ofNat (pNm H i).length = Int32.ofNat (8 + 2 * (pNm H i).length) := by
      rw [show (2 : Int32) * Int32.ofNat (pNm H i).length = Int32.ofNat (2 * (pNm H i).length) from (Int32.ofNat_mul 2 _).symm]
      exact zo_add 8 (2 * (pNm H i).length)
    rw [zm_greetLoop hMT hc hb hi hM hH (by omega), zm_address hMT hc v N, zc_e, e82, r1, zc_e, r2, zc_e, r3, zc_e, s2, zc_e, u1, zc_e]
  · intro I _ a h
    exact a g _ (-1) _ v vw (Or.inl rfl) ⟨Or.inl rfl, rfl, rk, zDw_mk (by omega) (by omega), rfl, Or.inl rfl⟩ h
  · exact zFC_tr (zFC_kdc kd4) (zFC_put s6 s4)
  · exact zFM_tr (zFM_make r8) (zFM_tr (zFM_carry s7) (zFM_drop u4))
