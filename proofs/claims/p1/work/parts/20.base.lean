/-- of a field of a kind: 0 an int, 1 a reference to an object of a kind, 2 its own array of a kind -/
def zkF (k j : Nat) : Nat × Nat := match k with
  | 0 => (match j with | 0 => (0, 0) | 1 => (2, 100) | 2 => (2, 101) | 3 => (2, 102) | 4 => (2, 103) | 5 => (2, 105) | 6 => (0, 0) | 7 => (0, 0) | 8 => (0, 0) | 9 => (0, 0) | 10 => (2, 106) | 11 => (2, 107) | 12 => (2, 108) | 13 => (2, 109) | 14 => (2, 110) | 15 => (2, 111) | _ => (9, 0))
  | 1 => (match j with | 0 => (0, 0) | 1 => (0, 0) | 2 => (2, 112) | 3 => (0, 0) | 4 => (2, 113) | 5 => (2, 114) | 6 => (2, 115) | 7 => (2, 117) | 8 => (2, 118) | 9 => (0, 0) | 10 => (1, 9) | 11 => (2, 119) | 12 => (0, 0) | _ => (9, 0))
  | 2 => (match j with | 0 => (0, 0) | 1 => (0, 0) | 2 => (0, 0) | 3 => (0, 0) | 4 => (0, 0) | 5 => (0, 0) | 6 => (0, 0) | 7 => (0, 0) | 8 => (0, 0) | 9 => (0, 0) | 10 => (0, 0) | 11 => (0, 0) | 12 => (1, 3) | _ => (9, 0))
  | 3 => (match j with | 0 => (0, 0) | 1 => (0, 0) | 2 => (0, 0) | 3 => (0, 0) | 4 => (0, 0) | 5 => (0, 0) | 6 => (0, 0) | 7 => (0, 0) | 8 => (0, 0) | 9 => (0, 0) | 10 => (0, 0) | 11 => (0, 0) | 12 => (0, 0) | 13 => (0, 0) | 14 => (0, 0) | 15 => (0, 0) | 16 => (1, 6) | 17 => (1, 4) | 18 => (1, 10) | _ => (9, 0))
  | 4 => (match j with | 0 => (2, 120) | 1 => (2, 121) | 2 => (0, 0) | 3 => (0, 0) | 4 => (0, 0) | 5 => (0, 0) | 6 => (0, 0) | 7 => (0, 0) | _ => (9, 0))
  | 5 => (match j with | 0 => (0, 0) | 1 => (0, 0) | 2 => (0, 0) | 3 => (0, 0) | 4 => (2, 122) | 5 => (0, 0) | 6 => (0, 0) | 7 => (2, 123) | 8 => (0, 0) | 9 => (0, 0) | 10 => (0, 0) | _ => (9, 0))
  | 6 => (match j with | 0 => (2, 124) | 1 => (0, 0) | 2 => (0, 0) | 3 => (0, 0) | 4 => (0, 0) | 5 => (0, 0) | 6 => (0, 0) | 7 => (0, 0) | 8 => (0, 0) | 9 => (0, 0) | 10 => (0, 0) | 11 => (0, 0) | 12 => (0, 0) | 13 => (0, 0) | _ => (9, 0))
  | 7 => (match j with | 0 => (0, 0) | 1 => (0, 0) | 2 => (0, 0) | 3 => (0, 0) | 4 => (0, 0) | 5 => (0, 0) | 6 => (0, 0) | 7 => (0, 0) | 8 => (2, 125) | 9 => (0, 0) | 10 => (0, 0) | 11 => (0, 0) | 12 => (0, 0) | 13 => (0, 0) | 14 => (1, 7) | 15 => (0, 0) | 16 => (0, 0) | 17 => (0, 0) | 18 => (0, 0) | 19 => (0, 0) | _ => (9, 0))
  | 8 => (match j with | 0 => (1, 1) | 1 => (1, 5) | 2 => (0, 0) | 3 => (0, 0) | 4 => (0, 0) | 5 => (0, 0) | 6 => (2, 126) | 7 => (2, 127) | 8 => (2, 128) | 9 => (0, 0) | 10 => (2, 129) | 11 => (2, 130) | 12 => (0, 0) | _ => (9, 0))
  | 9 => (match j with | 0 => (2, 131) | 1 => (0, 0) | 2 => (2, 132) | 3 => (2, 133) | 4 => (2, 134) | 5 => (0, 0) | 6 => (2, 136) | 7 => (2, 137) | 8 => (2, 138) | 9 => (0, 0) | 10 => (0, 0) | 11 => (0, 0) | 12 => (1, 0) | _ => (9, 0))
  | 10 => (match j with | 0 => (0, 0) | 1 => (0, 0) | 2 => (0, 0) | 3 => (0, 0) | 4 => (0, 0) | 5 => (0, 0) | 6 => (0, 0) | 7 => (0, 0) | 8 => (0, 0) | _ => (9, 0))
  | 11 => (match j with | 0 => (2, 139) | 1 => (0, 0) | 2 => (2, 140) | 3 => (0, 0) | 4 => (0, 0) | 5 => (0, 0) | 6 => (0, 0) | 7 => (0, 0) | 8 => (0, 0) | 9 => (2, 141) | 10 => (2, 142) | 11 => (1, 7) | 12 => (0, 0) | 13 => (1, 7) | 14 => (1, 7) | 15 => (0, 0) | 16 => (2, 143) | 17 => (2, 144) | 18 => (2, 145) | 19 => (0, 0) | 20 => (2, 146) | _ => (9, 0))
  | 12 => (match j with | 0 => (0, 0) | 1 => (0, 0) | 2 => (2, 147) | 3 => (0, 0) | 4 => (0, 0) | 5 => (0, 0) | 6 => (0, 0) | 7 => (0, 0) | 8 => (0, 0) | 9 => (0, 0) | 10 => (2, 148) | 11 => (0, 0) | 12 => (2, 149) | 13 => (0, 0) | 14 => (2, 150) | 15 => (2, 151) | 16 => (0, 0) | 17 => (0, 0) | 18 => (0, 0) | 19 => (2, 152) | 20 => (2, 153) | 21 => (2, 154) | 22 => (0, 0) | 23 => (0, 0) | 24 => (0, 0) | 25 => (2, 155) | 26 => (2, 156) | 27 => (2, 157) | 28 => (2, 158) | 29 => (0, 0) | _ => (9, 0))
  | 13 => (match j with | 0 => (0, 0) | 1 => (0, 0) | 2 => (0, 0) | 3 => (0, 0) | 4 => (1, 14) | 5 => (0, 0) | 6 => (0, 0) | 7 => (0, 0) | 8 => (0, 0) | 9 => (0, 0) | _ => (9, 0))
  | 14 => (match j with | 0 => (0, 0) | 1 => (0, 0) | 2 => (0, 0) | 3 => (0, 0) | 4 => (0, 0) | 5 => (0, 0) | 6 => (0, 0) | 7 => (0, 0) | 8 => (0, 0) | 9 => (0, 0) | 10 => (2, 159) | 11 => (0, 0) | 12 => (0, 0) | 13 => (0, 0) | 14 => (0, 0) | 15 => (0, 0) | 16 => (0, 0) | 17 => (0, 0) | 18 => (0, 0) | 19 => (2, 160) | 20 => (2, 161) | 21 => (0, 0) | 22 => (0, 0) | 23 => (0, 0) | 24 => (0, 0) | 25 => (0, 0) | 26 => (0, 0) | 27 => (0, 0) | 28 => (0, 0) | 29 => (0, 0) | 30 => (0, 0) | 31 => (0, 0) | 32 => (0, 0) | 33 => (0, 0) | 34 => (0, 0) | 35 => (0, 0) | 36 => (0, 0) | 37 => (0, 0) | 38 => (0, 0) | 39 => (0, 0) | 40 => (0, 0) | 41 => (0, 0) | 42 => (0, 0) | 43 => (0, 0) | 44 => (0, 0) | 45 => (0, 0) | 46 => (0, 0) | _ => (9, 0))
  | 15 => (match j with | 0 => (0, 0) | 1 => (0, 0) | 2 => (0, 0) | 3 => (0, 0) | 4 => (2, 162) | 5 => (2, 163) | _ => (9, 0))
  | 16 => (match j with | 0 => (0, 0) | 1 => (0, 0) | 2 => (0, 0) | 3 => (0, 0) | 4 => (2, 164) | 5 => (0, 0) | 6 => (2, 165) | 7 => (0, 0) | 8 => (0, 0) | 9 => (0, 0) | _ => (9, 0))
  | 17 => (match j with | 0 => (0, 0) | 1 => (0, 0) | 2 => (0, 0) | 3 => (0, 0) | 4 => (0, 0) | 5 => (0, 0) | 6 => (2, 166) | _ => (9, 0))
  | 18 => (match j with | 0 => (1, 12) | 1 => (0, 0) | 2 => (1, 16) | 3 => (0, 0) | 4 => (0, 0) | 5 => (0, 0) | 6 => (2, 167) | 7 => (2, 168) | 8 => (2, 169) | 9 => (0, 0) | 10 => (2, 170) | 11 => (2, 171) | 12 => (0, 0) | _ => (9, 0))
  | 19 => (match j with | 0 => (2, 172) | 1 => (2, 173) | 2 => (0, 0) | 3 => (2, 174) | 4 => (2, 175) | 5 => (2, 176) | 6 => (2, 177) | 7 => (0, 0) | 8 => (2, 178) | 9 => (2, 179) | 10 => (2, 180) | 11 => (0, 0) | 12 => (2, 181) | 13 => (2, 182) | 14 => (2, 183) | 15 => (2, 184) | 16 => (2, 185) | 17 => (0, 0) | 18 => (2, 186) | 19 => (0, 0) | 20 => (2, 187) | 21 => (0, 0) | 22 => (2, 188) | 23 => (0, 0) | 24 => (0, 0) | 25 => (0, 0) | 26 => (0, 0) | 27 => (0, 0) | 28 => (2, 189) | 29 => (2, 190) | 30 => (2, 191) | 31 => (2, 192) | _ => (9, 0))
  | _ => (9, 0)
/-- of a kind of arrays: what it holds (0 bytes, 1 ints, 2 longs, 3 booleans, 4 objects, 5 rows), how many, of which kind, the place of its type -/
def zkA (k : Nat) : Nat × Nat × Nat × Nat := match k with
  | 100 => (1, 16, 0, 1)
  | 101 => (1, 16, 0, 1)
  | 102 => (1, 16, 0, 1)
  | 103 => (5, 16, 104, 4)
  | 104 => (1, 24, 0, 1)
  | 105 => (1, 24, 0, 1)
  | 106 => (1, 24, 0, 1)
  | 107 => (1, 24, 0, 1)
  | 108 => (1, 24, 0, 1)
  | 109 => (1, 16, 0, 1)
  | 110 => (3, 16, 0, 3)
  | 111 => (1, 16, 0, 1)
  | 112 => (4, 6, 8, 5)
  | 113 => (1, 8, 0, 1)
  | 114 => (4, 4, 7, 6)
  | 115 => (5, 4, 116, 7)
  | 116 => (2, 3, 0, 2)
  | 117 => (1, 4, 0, 1)
  | 118 => (1, 4, 0, 1)
  | 119 => (4, 0, 2, 8)
  | 120 => (0, 2048, 0, 0)
  | 121 => (3, 2048, 0, 3)
  | 122 => (0, 64, 0, 0)
  | 123 => (4, 8, 8, 5)
  | 124 => (0, 2048, 0, 0)
  | 125 => (0, 1480, 0, 0)
  | 126 => (1, 8, 0, 1)
  | 127 => (1, 8, 0, 1)
  | 128 => (1, 8, 0, 1)
  | 129 => (1, 8, 0, 1)
  | 130 => (4, 17, 7, 6)
  | 131 => (1, 16, 0, 1)
  | 132 => (1, 96, 0, 1)
  | 133 => (3, 96, 0, 3)
  | 134 => (5, 96, 135, 4)
  | 135 => (1, 16, 0, 1)
  | 136 => (1, 64, 0, 1)
  | 137 => (1, 64, 0, 1)
  | 138 => (1, 64, 0, 1)
  | 139 => (4, 24, 5, 9)
  | 140 => (4, 16, 1, 10)
  | 141 => (4, 256, 7, 6)
  | 142 => (4, 256, 7, 6)
  | 143 => (1, 512, 0, 1)
  | 144 => (1, 512, 0, 1)
  | 145 => (2, 512, 0, 2)
  | 146 => (1, 16, 0, 1)
  | 147 => (4, 6, 18, 11)
  | 148 => (4, 4, 17, 12)
  | 149 => (4, 16, 15, 13)
  | 150 => (1, 16, 0, 1)
  | 151 => (1, 16, 0, 1)
  | 152 => (1, 64, 0, 1)
  | 153 => (1, 64, 0, 1)
  | 154 => (1, 64, 0, 1)
  | 155 => (1, 24, 0, 1)
  | 156 => (1, 24, 0, 1)
  | 157 => (1, 24, 0, 1)
  | 158 => (4, 6, 13, 14)
  | 159 => (0, 2048, 0, 0)
  | 160 => (0, 2048, 0, 0)
  | 161 => (3, 2048, 0, 3)
  | 162 => (3, 16, 0, 3)
  | 163 => (1, 16, 0, 1)
  | 164 => (4, 8, 18, 11)
  | 165 => (1, 64, 0, 1)
  | 166 => (3, 192, 0, 3)
  | 167 => (1, 8, 0, 1)
  | 168 => (1, 8, 0, 1)
  | 169 => (1, 8, 0, 1)
  | 170 => (1, 17, 0, 1)
  | 171 => (1, 17, 0, 1)
  | 172 => (1, 43200, 0, 1)
  | 173 => (1, 2400, 0, 1)
  | 174 => (1, 24000, 0, 1)
  | 175 => (2, 439200, 0, 2)
  | 176 => (1, 2400, 0, 1)
  | 177 => (1, 2400, 0, 1)
  | 178 => (1, 182400, 0, 1)
  | 179 => (1, 2400, 0, 1)
  | 180 => (1, 2400, 0, 1)
  | 181 => (2, 1327104, 0, 2)
  | 182 => (1, 2592, 0, 1)
  | 183 => (1, 2592, 0, 1)
  | 184 => (1, 2592, 0, 1)
  | 185 => (1, 2592, 0, 1)
  | 186 => (4, 16, 12, 15)
  | 187 => (4, 24, 16, 16)
  | 188 => (1, 3584, 0, 1)
  | 189 => (1, 16, 0, 1)
  | 190 => (1, 256, 0, 1)
  | 191 => (1, 16, 0, 1)
  | 192 => (3, 24, 0, 3)
  | 193 => (2, 1, 0, 2)
  | _ => (9, 0, 0, 0)
def zty (cy : Nat → ClassId) : List (ClassId × FieldType) := [(cy 0, .byte), (cy 1, .int), (cy 2, .long), (cy 3, .boolean), (cy 4, .array .int), (cy 5, .object "WholeInternet$Port"), (cy 6, .object "WholeInternet$Parcel"), (cy 7, .array .long), (cy 8, .object "WholeInternet$Door"), (cy 9, .object "WholeInternet$Net"), (cy 10, .object "WholeInternet$Box"), (cy 11, .object "WholeInternetModel$Port"), (cy 12, .object "WholeInternetModel$Pieces"), (cy 13, .object "WholeInternetModel$Neighbour"), (cy 14, .object "WholeInternetModel$Door"), (cy 15, .object "WholeInternetModel$Box"), (cy 16, .object "WholeInternetModel$Net")]
/-! The state of class and reference as functions: what the ints and references of the objects of a kind hold (kind, field, object), and what their arrays hold (kind of arrays, owner, place). -/
abbrev St : Type := (Nat → Nat → Nat → Int32) × (Nat → Nat → Nat → Option Nat) × (Nat → Nat → Nat → Int32) × (Nat → Nat → Nat → Int64) × (Nat → Nat → Nat → Option Nat)
def zgI (z : St) (k j o : Nat) : Int32 := z.1 k j o
def zgR (z : St) (k j o : Nat) : Option Nat := z.2.1 k j o
def zgA (z : St) (k o i : Nat) : Int32 := z.2.2.1 k o i
def zgL (z : St) (k o i : Nat) : Int64 := z.2.2.2.1 k o i
def zgQ (z : St) (k o i : Nat) : Option Nat := z.2.2.2.2 k o i
def zup {α : Type} (f : Nat → Nat → Nat → α) (k j o : Nat) (v : α) : Nat → Nat → Nat → α := fun k' j' o' => if k' = k ∧ j' = j ∧ o' = o then v else f k' j' o'
def zsI (z : St) (k j o : Nat) (v : Int32) : St := (zup z.1 k j o v, z.2)
def zsR (z : St) (k j o : Nat) (v : Option Nat) : St := (z.1, zup z.2.1 k j o v, z.2.2)
def zsA (z : St) (k o i : Nat) (v : Int32) : St := (z.1, z.2.1, zup z.2.2.1 k o i v, z.2.2.2)
def zsL (z : St) (k o i : Nat) (v : Int64) : St := (z.1, z.2.1, z.2.2.1, zup z.2.2.2.1 k o i v, z.2.2.2.2)
def zsQ (z : St) (k o i : Nat) (v : Option Nat) : St := (z.1, z.2.1, z.2.2.1, z.2.2.2.1, zup z.2.2.2.2 k o i v)
def zN (k : Nat) : Nat := match vwCl[k]? with
  | some r => r.2.2
  | none => 0
def zlen (z : St) (k o : Nat) : Nat := if k = 119 then (if zgI z 1 1 o = 0 then 6 else 0) else (zkA k).2.1
/-- a field's value; B tells where the object of a kind and a number lies -/
def zfv (B : Nat → Nat → Nat) (z : St) (k j o : Nat) : Value := match (zkF k j).1 with
  | 0 => .int (zgI z k j o)
  | 1 => va_rf ((zgR z k j o).map (B (zkF k j).2))
  | _ => .ref (B (zkF k j).2 o)
def zfs (B : Nat → Nat → Nat) (z : St) (k o : Nat) : List Value := (List.range (zN k)).map (fun j => zfv B z k j o)
def zco (B : Nat → Nat → Nat) (z : St) (k o : Nat) : (Nat → Int32) ⊕ (Nat → Int64) ⊕ (Nat → UInt32) ⊕ (Nat → UInt64) ⊕ (Nat → Option Nat) := match (zkA k).1 with
  | 2 => .inr (.inl (zgL z k o))
  | 4 => .inr (.inr (.inr (.inr (fun i => (zgQ z k o i).map (B (zkA k).2.2.1)))))
  | 5 => .inr (.inr (.inr (.inr (fun i => some (B (zkA k).2.2.1 (o * (zkA k).2.1 + i))))))
  | _ => .inl (zgA z k o)
def zcel (cy : Nat → ClassId) (B : Nat → Nat → Nat) (z : St) (q : Nat × Nat) : va_E := if q.1 < 100 then .inr (q.1, zfs B z q.1 q.2) else .inl (cy (zkA q.1).2.2.2, (zlen z q.1 q.2, zco B z q.1 q.2))
def zw (cy : Nat → ClassId) (B : Nat → Nat → Nat) (ids : List (Nat × Nat)) (z : St) : va_W := ids.map (fun q => (B q.1 q.2, zcel cy B z q))
/-- what is referred to lies among ids; bytes are bytes -/
def zWf (ids : List (Nat × Nat)) (z : St) : Prop :=
  (∀ k j o t, (k, o) ∈ ids → (zkF k j).1 = 1 → zgR z k j o = some t → ((zkF k j).2, t) ∈ ids) ∧
  (∀ k o i t, (k, o) ∈ ids → (zkA k).1 = 4 → zgQ z k o i = some t → ((zkA k).2.2.1, t) ∈ ids) ∧
  (∀ k o i, (zkA k).1 = 0 → vp_nar .byte (zgA z k o i) = zgA z k o i)
/-- an object's arrays, and the rows of a row of rows, lie among ids -/
def zCl (ids : List (Nat × Nat)) : Prop :=
  (∀ k o j, (k, o) ∈ ids → (zkF k j).1 = 2 → ((zkF k j).2, o) ∈ ids) ∧
  (∀ k o r, (k, o) ∈ ids → (zkA k).1 = 5 → r < (zkA k).2.1 → ((zkA k).2.2.1, o * (zkA k).2.1 + r) ∈ ids)
def zGW : List Cond := lw_tbl.filter goodWord
def zisN : Cond → Bool
  | .fieldLinkNest _ _ _ _ _ _ => true
  | .methodLinkNest _ _ _ _ => true
  | _ => false
def zNL : List Cond := lw_tbl.filter zisN
def zNW (U : State) : Prop := ∀ w ∈ zNL, va_Nw w U
theorem zNL_is {w : Cond} (h : w ∈ zNL) : zisN w = true := (List.mem_filter.mp h).2
theorem zNW_warm {s U : State} (hW : s.WarmedH U.vm) (h : zNW s) : zNW U := by
  intro w hw
  have h1 := zNL_is hw
  have h2 := h w hw
  cases w <;> first | exact va_Nw.warmF hW h2 | exact va_Nw.warmM hW h2 | cases h1
theorem zNW_vm {u U : State} (hv : u.vm = U.vm) (h : zNW u) : zNW U := by
  intro w hw
  have h1 := zNL_is hw
  have h2 := h w hw
  cases w <;> first | (cases h1; done) | exact va_Nw.same rfl hv h2
def zRep (D : va_G) (cy : Nat → ClassId) (B : Nat → Nat → Nat) (ids : List (Nat × Nat)) (A : Nat → Prop) (H0 : Heap) (z : St) (H : Heap) (locs : List Loc) : Prop :=
  va_P D vwCl (zw cy B ids z) H ∧ va_S A H0 H locs ∧ zWf ids z
def zCx (D : va_G) (cy : Nat → ClassId) (B : Nat → Nat → Nat) (ids : List (Nat × Nat)) (A : Nat → Prop) (args : Array Value) (s : State) : Prop :=
  (∀ w ∈ zGW, w.before args s = true) ∧ va_K D vwCl (zty cy) s ∧ zNW s ∧ ids.Nodup ∧ zCl ids ∧ (∀ z, va_D A (zw cy B ids z))
def zFx (p : Program) (m : MethodId) (c : Code) (cc : ByteArray) (nL : Nat) (s : State) (args : Array Value) (own : String) (D : va_G) (cy : Nat → ClassId) (B : Nat → Nat → Nat) (ids : List (Nat × Nat)) (A : Nat → Prop) : Prop :=
  p.tables.exec = Jvm.exec ∧ c.code = cc ∧ c.maxLocals = nL ∧ s.vm.findClass own = some m.cls ∧ zCx D cy B ids A args s
/-! the state's own laws -/
theorem zup_at {α : Type} (f : Nat → Nat → Nat → α) (k j o : Nat) (v : α) : zup f k j o v k j o = v := by simp [zup]
theorem zup_if {α : Type} (f : Nat → Nat → Nat → α) (k j o : Nat) (v : α) (k' j' o' : Nat) : zup f k j o v k' j' o' = if k' = k ∧ j' = j ∧ o' = o then v else f k' j' o' := rfl
theorem zgI_sI (z : St) (k j o : Nat) (v : Int32) (k' j' o' : Nat) : zgI (zsI z k j o v) k' j' o' = if k' = k ∧ j' = j ∧ o' = o then v else zgI z k' j' o' := rfl
theorem zgR_sI (z : St) (k j o : Nat) (v : Int32) (k' j' o' : Nat) : zgR (zsI z k j o v) k' j' o' = zgR z k' j' o' := rfl
theorem zgA_sI (z : St) (k j o : Nat) (v : Int32) (k' j' o' : Nat) : zgA (zsI z k j o v) k' j' o' = zgA z k' j' o' := rfl
theorem zgL_sI (z : St) (k j o : Nat) (v : Int32) (k' j' o' : Nat) : zgL (zsI z k j o v) k' j' o' = zgL z k' j' o' := rfl
theorem zgQ_sI (z : St) (k j o : Nat) (v : Int32) (k' j' o' : Nat) : zgQ (zsI z k j o v) k' j' o' = zgQ z k' j' o' := rfl
theorem zgI_sR (z : St) (k j o : Nat) (v : Option Nat) (k' j' o' : Nat) : zgI (zsR z k j o v) k' j' o' = zgI z k' j' o' := rfl
theorem zgR_sR (z : St) (k j o : Nat) (v : Option Nat) (k' j' o' : Nat) : zgR (zsR z k j o v) k' j' o' = if k' = k ∧ j' = j ∧ o' = o then v else zgR z k' j' o' := rfl
theorem zgA_sR (z : St) (k j o : Nat) (v : Option Nat) (k' j' o' : Nat) : zgA (zsR z k j o v) k' j' o' = zgA z k' j' o' := rfl
theorem zgL_sR (z : St) (k j o : Nat) (v : Option Nat) (k' j' o' : Nat) : zgL (zsR z k j o v) k' j' o' = zgL z k' j' o' := rfl
theorem zgQ_sR (z : St) (k j o : Nat) (v : Option Nat) (k' j' o' : Nat) : zgQ (zsR z k j o v) k' j' o' = zgQ z k' j' o' := rfl
theorem zgI_sA (z : St) (k j o : Nat) (v : Int32) (k' j' o' : Nat) : zgI (zsA z k j o v) k' j' o' = zgI z k' j' o' := rfl
theorem zgR_sA (z : St) (k j o : Nat) (v : Int32) (k' j' o' : Nat) : zgR (zsA z k j o v) k' j' o' = zgR z k' j' o' := rfl
theorem zgA_sA (z : St) (k j o : Nat) (v : Int32) (k' j' o' : Nat) : zgA (zsA z k j o v) k' j' o' = if k' = k ∧ j' = j ∧ o' = o then v else zgA z k' j' o' := rfl
theorem zgL_sA (z : St) (k j o : Nat) (v : Int32) (k' j' o' : Nat) : zgL (zsA z k j o v) k' j' o' = zgL z k' j' o' := rfl
theorem zgQ_sA (z : St) (k j o : Nat) (v : Int32) (k' j' o' : Nat) : zgQ (zsA z k j o v) k' j' o' = zgQ z k' j' o' := rfl
theorem zgI_sL (z : St) (k j o : Nat) (v : Int64) (k' j' o' : Nat) : zgI (zsL z k j o v) k' j' o' = zgI z k' j' o' := rfl
theorem zgR_sL (z : St) (k j o : Nat) (v : Int64) (k' j' o' : Nat) : zgR (zsL z k j o v) k' j' o' = zgR z k' j' o' := rfl
theorem zgA_sL (z : St) (k j o : Nat) (v : Int64) (k' j' o' : Nat) : zgA (zsL z k j o v) k' j' o' = zgA z k' j' o' := rfl
theorem zgL_sL (z : St) (k j o : Nat) (v : Int64) (k' j' o' : Nat) : zgL (zsL z k j o v) k' j' o' = if k' = k ∧ j' = j ∧ o' = o then v else zgL z k' j' o' := rfl
theorem zgQ_sL (z : St) (k j o : Nat) (v : Int64) (k' j' o' : Nat) : zgQ (zsL z k j o v) k' j' o' = zgQ z k' j' o' := rfl
theorem zgI_sQ (z : St) (k j o : Nat) (v : Option Nat) (k' j' o' : Nat) : zgI (zsQ z k j o v) k' j' o' = zgI z k' j' o' := rfl
theorem zgR_sQ (z : St) (k j o : Nat) (v : Option Nat) (k' j' o' : Nat) : zgR (zsQ z k j o v) k' j' o' = zgR z k' j' o' := rfl
theorem zgA_sQ (z : St) (k j o : Nat) (v : Option Nat) (k' j' o' : Nat) : zgA (zsQ z k j o v) k' j' o' = zgA z k' j' o' := rfl
theorem zgL_sQ (z : St) (k j o : Nat) (v : Option Nat) (k' j' o' : Nat) : zgL (zsQ z k j o v) k' j' o' = zgL z k' j' o' := rfl
theorem zgQ_sQ (z : St) (k j o : Nat) (v : Option Nat) (k' j' o' : Nat) : zgQ (zsQ z k j o v) k' j' o' = if k' = k ∧ j' = j ∧ o' = o then v else zgQ z k' j' o' := rfl
/-! worlds -/
theorem zw_at {cy : Nat → ClassId} {B : Nat → Nat → Nat} {ids : List (Nat × Nat)} {k o : Nat} (z : St) (h : (k, o) ∈ ids) : ∃ q0 : Nat, ids[q0]? = some (k, o) ∧ (zw cy B ids z)[q0]? = some (B k o, zcel cy B z (k, o)) := by
  obtain ⟨q0, hq⟩ := List.getElem?_of_mem h
  refine ⟨q0, hq, ?_⟩
  simp [zw, List.getElem?_map, hq]
theorem zw_set {cy : Nat → ClassId} {B : Nat → Nat → Nat} {ids : List (Nat × Nat)} {k o q0 : Nat} {z z' : St} {e : va_E} (h0 : ids[q0]? = some (k, o)) (hnd : ids.Nodup) (he : e = zcel cy B z' (k, o)) (hs : ∀ q : Nat × Nat, q ≠ (k, o) → zcel cy B z' q = zcel cy B z q) : (zw cy B ids z).set q0 (B k o, e) = zw cy B ids z' := by
  subst he
  apply List.ext_getElem?
  intro i
  rw [List.getElem?_set]
  have hq : q0 < ids.length := (List.getElem?_eq_some_iff.mp h0).1
  by_cases hi : q0 = i
  · subst hi
    rw [if_pos rfl, if_pos (by simpa [zw] using hq)]
    simp only [zw, List.getElem?_map, h0, Option.map_some]
  · rw [if_neg hi]
    simp only [zw, List.getElem?_map]
    cases hx : ids[i]? with
    | none => rfl
    | some q =>
      simp only [Option.map_some]
      rw [hs q]
      intro e
      subst e
      exact hi ((List.getElem?_inj hq hnd).mp (h0.trans hx.symm))
theorem zcel_o {cy : Nat → ClassId} {B : Nat → Nat → Nat} {z : St} {k o : Nat} (h : k < 100) : zcel cy B z (k, o) = .inr (k, zfs B z k o) := if_pos h
theorem zcel_a {cy : Nat → ClassId} {B : Nat → Nat → Nat} {z : St} {k o : Nat} (h : 100 ≤ k) : zcel cy B z (k, o) = .inl (cy (zkA k).2.2.2, (zlen z k o, zco B z k o)) := if_neg (Nat.not_lt.mpr h)
theorem zlen_d {z : St} {k o : Nat} (h : k ≠ 119) : zlen z k o = (zkA k).2.1 := if_neg h
theorem zfs_at {B : Nat → Nat → Nat} {z : St} {k o j : Nat} (hj : j < zN k) : (zfs B z k o)[j]? = some (zfv B z k j o) := by
  simp [zfs, hj]
theorem zfs_len {B : Nat → Nat → Nat} {z : St} {k o : Nat} : (zfs B z k o).length = zN k := by simp [zfs]
theorem zfs_set {B : Nat → Nat → Nat} {z z' : St} {k o j : Nat} {v : Value} (hj : j < zN k) (hv : v = zfv B z' k j o) (hs : ∀ i, i ≠ j → zfv B z' k i o = zfv B z k i o) : (zfs B z k o).set j v = zfs B z' k o := by
  subst hv
  apply List.ext_getElem?
  intro i
  rw [List.getElem?_set]
  by_cases hi : j = i
  · subst hi
    simp [zfs, hj]
  · rw [if_neg hi]
    simp only [zfs, List.getElem?_map]
    cases hx : (List.range (zN k))[i]? with
    | none => rfl
    | some q =>
      have : q = i := by
        have h2 := List.getElem?_eq_some_iff.mp hx
        obtain ⟨l2, e2⟩ := h2
        simpa using e2.symm
      subst this
      simp only [Option.map_some]
      rw [hs q (fun h => hi h.symm)]
theorem zne {a b c d : Nat} (h : (a, b) ≠ (c, d)) : ¬ (a = c ∧ b = d) := fun q => h (by rw [q.1, q.2])
theorem zcel_sI {cy : Nat → ClassId} {B : Nat → Nat → Nat} {z : St} {k j o : Nat} {v : Int32} (h11 : ¬ (k = 1 ∧ j = 1)) (q : Nat × Nat) (hq : q ≠ (k, o)) : zcel cy B (zsI z k j o v) q = zcel cy B z q := by
  obtain ⟨k', o'⟩ := q
  have hn := zne hq
  by_cases h : k' < 100
  · rw [zcel_o h, zcel_o h]
    have : zfs B (zsI z k j o v) k' o' = zfs B z k' o' := by
      unfold zfs
      apply List.map_congr_left
      intro i _
      unfold zfv
      rw [zgI_sI, if_neg (fun q => hn ⟨q.1, q.2.2⟩), zgR_sI]
    rw [this]
  · rw [zcel_a (Nat.not_lt.mp h), zcel_a (Nat.not_lt.mp h)]
    have h1 : zlen (zsI z k j o v) k' o' = zlen z k' o' := by
      unfold zlen
      rw [zgI_sI, if_neg (show ¬ ((1 : Nat) = k ∧ (1 : Nat) = j ∧ o' = o) from fun q => h11 ⟨q.1.symm, q.2.1.symm⟩)]
    rw [h1]
    rfl
theorem zcel_sR {cy : Nat → ClassId} {B : Nat → Nat → Nat} {z : St} {k j o : Nat} {v : Option Nat} (q : Nat × Nat) (hq : q ≠ (k, o)) : zcel cy B (zsR z k j o v) q = zcel cy B z q := by
  obtain ⟨k', o'⟩ := q
  have hn := zne hq
  by_cases h : k' < 100
  · rw [zcel_o h, zcel_o h]
    have : zfs B (zsR z k j o v) k' o' = zfs B z k' o' := by
      unfold zfs
      apply List.map_congr_left
      intro i _
      unfold zfv
      rw [zgR_sR, if_neg (fun q => hn ⟨q.1, q.2.2⟩), zgI_sR]
    rw [this]
  · rw [zcel_a (Nat.not_lt.mp h), zcel_a (Nat.not_lt.mp h)]
    rfl
theorem zcel_sA {cy : Nat → ClassId} {B : Nat → Nat → Nat} {z : St} {k o i : Nat} {v : Int32} (q : Nat × Nat) (hq : q ≠ (k, o)) : zcel cy B (zsA z k o i v) q = zcel cy B z q := by
  obtain ⟨k', o'⟩ := q
  have hn := zne hq
  by_cases h : k' < 100
  · rw [zcel_o h, zcel_o h]
    rfl
  · rw [zcel_a (Nat.not_lt.mp h), zcel_a (Nat.not_lt.mp h)]
    have h2 : zgA (zsA z k o i v) k' o' = zgA z k' o' := by
      funext x
      rw [zgA_sA, if_neg (fun q => hn ⟨q.1, q.2.1⟩)]
    have h1 : zco B (zsA z k o i v) k' o' = zco B z k' o' := by
      unfold zco
      rw [h2]
      rfl
    rw [h1]
    rfl
theorem zcel_sL {cy : Nat → ClassId} {B : Nat → Nat → Nat} {z : St} {k o i : Nat} {v : Int64} (q : Nat × Nat) (hq : q ≠ (k, o)) : zcel cy B (zsL z k o i v) q = zcel cy B z q := by
  obtain ⟨k', o'⟩ := q
  have hn := zne hq
  by_cases h : k' < 100
  · rw [zcel_o h, zcel_o h]
    rfl
  · rw [zcel_a (Nat.not_lt.mp h), zcel_a (Nat.not_lt.mp h)]
    have h2 : zgL (zsL z k o i v) k' o' = zgL z k' o' := by
      funext x
      rw [zgL_sL, if_neg (fun q => hn ⟨q.1, q.2.1⟩)]
    have h1 : zco B (zsL z k o i v) k' o' = zco B z k' o' := by
      unfold zco
      rw [h2]
      rfl
    rw [h1]
    rfl
theorem zcel_sQ {cy : Nat → ClassId} {B : Nat → Nat → Nat} {z : St} {k o i : Nat} {v : Option Nat} (q : Nat × Nat) (hq : q ≠ (k, o)) : zcel cy B (zsQ z k o i v) q = zcel cy B z q := by
  obtain ⟨k', o'⟩ := q
  have hn := zne hq
  by_cases h : k' < 100
  · rw [zcel_o h, zcel_o h]
    rfl
  · rw [zcel_a (Nat.not_lt.mp h), zcel_a (Nat.not_lt.mp h)]
    have h2 : zgQ (zsQ z k o i v) k' o' = zgQ z k' o' := by
      funext x
      rw [zgQ_sQ, if_neg (fun q => hn ⟨q.1, q.2.1⟩)]
    have h1 : zco B (zsQ z k o i v) k' o' = zco B z k' o' := by
      unfold zco
      rw [h2]
      rfl
    rw [h1]
    rfl
/-! what stays well formed -/
theorem zWf_sI {ids : List (Nat × Nat)} {z : St} (h : zWf ids z) (k j o : Nat) (v : Int32) : zWf ids (zsI z k j o v) := h
theorem zWf_sL {ids : List (Nat × Nat)} {z : St} (h : zWf ids z) (k o i : Nat) (v : Int64) : zWf ids (zsL z k o i v) := h
theorem zWf_sR {ids : List (Nat × Nat)} {z : St} (h : zWf ids z) {k j o : Nat} {v : Option Nat} (hv : ∀ t, v = some t → ((zkF k j).2, t) ∈ ids) : zWf ids (zsR z k j o v) := by
  refine ⟨fun k' j' o' t hm hk ht => ?_, h.2.1, h.2.2⟩
  rw [zgR_sR] at ht
  by_cases e : k' = k ∧ j' = j ∧ o' = o
  · rw [if_pos e] at ht
    rw [e.1, e.2.1]
    exact hv t ht
  · rw [if_neg e] at ht
    exact h.1 k' j' o' t hm hk ht
theorem zWf_sQ {ids : List (Nat × Nat)} {z : St} (h : zWf ids z) {k o i : Nat} {v : Option Nat} (hv : ∀ t, v = some t → ((zkA k).2.2.1, t) ∈ ids) : zWf ids (zsQ z k o i v) := by
  refine ⟨h.1, fun k' o' i' t hm hk ht => ?_, h.2.2⟩
  rw [zgQ_sQ] at ht
  by_cases e : k' = k ∧ o' = o ∧ i' = i
  · rw [if_pos e] at ht
    rw [e.1]
    exact hv t ht
  · rw [if_neg e] at ht
    exact h.2.1 k' o' i' t hm hk ht
theorem zWf_sA {ids : List (Nat × Nat)} {z : St} (h : zWf ids z) {k o i : Nat} {v : Int32} (hv : (zkA k).1 = 0 → vp_nar .byte v = v) : zWf ids (zsA z k o i v) := by
  refine ⟨h.1, h.2.1, fun k' o' i' hk => ?_⟩
  rw [zgA_sA]
  by_cases e : k' = k ∧ o' = o ∧ i' = i
  · rw [if_pos e]
    exact hv (by rw [← e.1]; exact hk)
  · rw [if_neg e]
    exact h.2.2 k' o' i' hk
/-! pure steps -/
def zl {α β : Type} (e : α) (k : α → Option β) : Option β := k e
theorem zl_sub {α β : Type} {e x : α} {k : α → Option β} {y : β} (hx : x = e) (h : zl e k = some y) : k x = some y := by rw [hx]; exact h
def zd {α β : Type} (x : Option α) (k : α → Option β) : Option β := match x with
  | some a => k a
  | none => none
theorem zd_some {α β : Type} {x : Option α} {k : α → Option β} {y : β} (h : zd x k = some y) : ∃ a, x = some a ∧ k a = some y := by
  cases x with
  | none => cases h
  | some a => exact ⟨a, rfl, h⟩
def zk {β : Type} (i : Int32) (n : Nat) (k : Option β) : Option β := if i < 0 ∨ n ≤ i.toNatClampNeg then none else k
theorem zk_some {β : Type} {i : Int32} {n : Nat} {k : Option β} {y : β} (h : zk i n k = some y) : vp_in i n ∧ k = some y := by
  unfold zk at h
  by_cases c : i < 0 ∨ n ≤ i.toNatClampNeg
  · rw [if_pos c] at h; cases h
  · rw [if_neg c] at h; exact ⟨c, h⟩
def zq {β : Type} (c : Prop) [Decidable c] (k : Option β) : Option β := if c then k else none
theorem zq_some {β : Type} {c : Prop} {dc : Decidable c} {k : Option β} {y : β} (h : zq c k = some y) : c ∧ k = some y := by
  unfold zq at h
  by_cases q : c
  · rw [if_pos q] at h; exact ⟨q, h⟩
  · rw [if_neg q] at h; cases h
theorem zi_t {β : Type} {c : Prop} {dc : Decidable c} {a b : Option β} {y : β} (q : c) (h : (if c then a else b) = some y) : a = some y := by rw [if_pos q] at h; exact h
theorem zi_f {β : Type} {c : Prop} {dc : Decidable c} {a b : Option β} {y : β} (q : ¬ c) (h : (if c then a else b) = some y) : b = some y := by rw [if_neg q] at h; exact h
def zc {α β : Type} (x : Option (α × St)) (k : α → St → Option β) : Option β := match x with
  | some (a, z) => k a z
  | none => none
theorem zc_some {α β : Type} {x : Option (α × St)} {k : α → St → Option β} {y : β} (h : zc x k = some y) : ∃ a z, x = some (a, z) ∧ k a z = some y := by
  cases x with
  | none => cases h
  | some q => exact ⟨q.1, q.2, rfl, h⟩
def zo {α β : Type} (x : Option α) (a : Option β) (k : α → Option β) : Option β := match x with
  | some i => k i
  | none => a
theorem zo_n {α β : Type} {x : Option α} {a : Option β} {k : α → Option β} {y : β} (e : x = none) (h : zo x a k = some y) : a = some y := by subst e; exact h
theorem zo_s {α β : Type} {x : Option α} {a : Option β} {k : α → Option β} {y : β} {i : α} (e : x = some i) (h : zo x a k = some y) : k i = some y := by subst e; exact h

