def znmX1_r (o : Nat) : List (Nat × Nat) := [(1, o), (112, o), (113, o), (114, o), (115, o), (116, (o * 4 + 0)), (116, (o * 4 + 1)), (116, (o * 4 + 2)), (116, (o * 4 + 3)), (117, o), (118, o), (7, (515 + 4 * o + 0)), (125, (515 + 4 * o + 0)), (7, (515 + 4 * o + 1)), (125, (515 + 4 * o + 1)), (7, (515 + 4 * o + 2)), (125, (515 + 4 * o + 2)), (7, (515 + 4 * o + 3)), (125, (515 + 4 * o + 3)), (9, o), (131, o), (132, o), (133, o), (134, o), (135, (o * 96 + 0)), (135, (o * 96 + 1)), (135, (o * 96 + 2)), (135, (o * 96 + 3)), (135, (o * 96 + 4)), (135, (o * 96 + 5)), (135, (o * 96 + 6)), (135, (o * 96 + 7)), (135, (o * 96 + 8)), (135, (o * 96 + 9)), (135, (o * 96 + 10)), (135, (o * 96 + 11)), (135, (o * 96 + 12)), (135, (o * 96 + 13)), (135, (o * 96 + 14)), (135, (o * 96 + 15)), (135, (o * 96 + 16)), (135, (o * 96 + 17)), (135, (o * 96 + 18)), (135, (o * 96 + 19)), (135, (o * 96 + 20)), (135, (o * 96 + 21)), (135, (o * 96 + 22)), (135, (o * 96 + 23)), (135, (o * 96 + 24)), (135, (o * 96 + 25)), (135, (o * 96 + 26)), (135, (o * 96 + 27)), (135, (o * 96 + 28)), (135, (o * 96 + 29)), (135, (o * 96 + 30)), (135, (o * 96 + 31)), (135, (o * 96 + 32)), (135, (o * 96 + 33)), (135, (o * 96 + 34)), (135, (o * 96 + 35)), (135, (o * 96 + 36)), (135, (o * 96 + 37)), (135, (o * 96 + 38)), (135, (o * 96 + 39)), (135, (o * 96 + 40)), (135, (o * 96 + 41)), (135, (o * 96 + 42)), (135, (o * 96 + 43)), (135, (o * 96 + 44)), (135, (o * 96 + 45)), (135, (o * 96 + 46)), (135, (o * 96 + 47)), (135, (o * 96 + 48)), (135, (o * 96 + 49)), (135, (o * 96 + 50)), (135, (o * 96 + 51)), (135, (o * 96 + 52)), (135, (o * 96 + 53)), (135, (o * 96 + 54)), (135, (o * 96 + 55)), (135, (o * 96 + 56)), (135, (o * 96 + 57)), (135, (o * 96 + 58)), (135, (o * 96 + 59)), (135, (o * 96 + 60)), (135, (o * 96 + 61)), (135, (o * 96 + 62)), (135, (o * 96 + 63)), (135, (o * 96 + 64)), (135, (o * 96 + 65)), (135, (o * 96 + 66)), (135, (o * 96 + 67)), (135, (o * 96 + 68)), (135, (o * 96 + 69)), (135, (o * 96 + 70)), (135, (o * 96 + 71)), (135, (o * 96 + 72)), (135, (o * 96 + 73)), (135, (o * 96 + 74)), (135, (o * 96 + 75)), (135, (o * 96 + 76)), (135, (o * 96 + 77)), (135, (o * 96 + 78)), (135, (o * 96 + 79)), (135, (o * 96 + 80)), (135, (o * 96 + 81)), (135, (o * 96 + 82)), (135, (o * 96 + 83)), (135, (o * 96 + 84)), (135, (o * 96 + 85)), (135, (o * 96 + 86)), (135, (o * 96 + 87)), (135, (o * 96 + 88)), (135, (o * 96 + 89)), (135, (o * 96 + 90)), (135, (o * 96 + 91)), (135, (o * 96 + 92)), (135, (o * 96 + 93)), (135, (o * 96 + 94)), (135, (o * 96 + 95)), (136, o), (137, o), (138, o), (0, o), (100, o), (101, o), (102, o), (103, o), (104, (o * 16 + 0)), (104, (o * 16 + 1)), (104, (o * 16 + 2)), (104, (o * 16 + 3)), (104, (o * 16 + 4)), (104, (o * 16 + 5)), (104, (o * 16 + 6)), (104, (o * 16 + 7)), (104, (o * 16 + 8)), (104, (o * 16 + 9)), (104, (o * 16 + 10)), (104, (o * 16 + 11)), (104, (o * 16 + 12)), (104, (o * 16 + 13)), (104, (o * 16 + 14)), (104, (o * 16 + 15)), (105, o), (106, o), (107, o), (108, o), (109, o), (110, o), (111, o), (119, o)]
def zmwX1_r (o : Nat) (x1 : Int32) : St := (zfl (zfl (zfl (zsQ (zsQ (zsQ (zsQ (zsI (zsI (zsR (zsI (zsR (zsI (zsI zz0 1 0 o x1) 1 1 o (1 : Int32)) 1 10 o (some o)) 9 10 o (1 : Int32)) 9 12 o (some o)) 0 0 o x1) 0 9 o (1 : Int32)) 114 o ((0 : Int32)).toNatClampNeg (some (515 + 4 * o + 0))) 114 o ((1 : Int32)).toNatClampNeg (some (515 + 4 * o + 1))) 114 o ((2 : Int32)).toNatClampNeg (some (515 + 4 * o + 2))) 114 o ((3 : Int32)).toNatClampNeg (some (515 + 4 * o + 3))) 106 o (fun i => if i < 24 then (-1 : Int32) else 0)) 107 o (fun i => if i < 24 then (-1 : Int32) else 0)) 108 o (fun i => if i < 24 then (-1 : Int32) else 0))
set_option maxHeartbeats 40000000 in
set_option maxRecDepth 100000 in
theorem zmkX1_r {D : va_G} {cy : Nat → ClassId} {B : Nat → Nat → Nat} {ids : List (Nat × Nat)} {A : Nat → Prop} {H0 : Heap} {z : St} {H : Heap} {locs : List Loc} (hst : zSt B ids) (h9 : zI9 ids) (o : Nat) (x1 : Int32) (hfr : zfr (znmX1_r o) ids) {h0 q1 q2 q3 q4 q5 q6 q7 q8 q9 q10 q11 q12 q13 q14 q15 q16 q17 q18 q19 q20 q21 q22 q23 q24 q25 q26 q27 q28 q29 q30 q31 q32 q33 q34 q35 : Nat} (hr : zRC D cy B ids A H0 z [(h0, .inr (1, [.int x1, .int (1 : Int32), .ref q1, .int 0, .ref q2, .ref q3, .ref q4, .ref q5, .ref q6, .int 0, .ref q15, .ref q35, .int 0])), (q1, .inl (cy 5, (6, .inr (.inr (.inr (.inr (fun _ => none))))))), (q2, .inl (cy 1, (8, .inl (fun _ => 0)))), (q3, .inl (cy 6, (4, .inr (.inr (.inr (.inr (va_up (va_up (va_up (va_up (fun _ => none) ((0 : Int32)).toNatClampNeg (some q7)) ((1 : Int32)).toNatClampNeg (some q9)) ((2 : Int32)).toNatClampNeg (some q11)) ((3 : Int32)).toNatClampNeg (some q13)))))))), (q4, .inl (cy 7, (4, .inr (.inr (.inr (.inr (fun i => if i < 4 then some (q4 + 1 + i) else none))))))), (q4 + 1 + 0, .inl (cy 2, (3, .inr (.inl (fun _ => 0))))), (q4 + 1 + 1, .inl (cy 2, (3, .inr (.inl (fun _ => 0))))), (q4 + 1 + 2, .inl (cy 2, (3, .inr (.inl (fun _ => 0))))), (q4 + 1 + 3, .inl (cy 2, (3, .inr (.inl (fun _ => 0))))), (q5, .inl (cy 1, (4, .inl (fun _ => 0)))), (q6, .inl (cy 1, (4, .inl (fun _ => 0)))), (q7, .inr (7, [.int 0, .int 0, .int 0, .int 0, .int 0, .int 0, .int 0, .int 0, .ref q8, .int 0, .int 0, .int 0, .int 0, .int 0, .null, .int 0, .int 0, .int 0, .int 0, .int 0])), (q8, .inl (cy 0, (1480, .inl (fun _ => 0)))), (q9, .inr (7, [.int 0, .int 0, .int 0, .int 0, .int 0, .int 0, .int 0, .int 0, .ref q10, .int 0, .int 0, .int 0, .int 0, .int 0, .null, .int 0, .int 0, .int 0, .int 0, .int 0])), (q10, .inl (cy 0, (1480, .inl (fun _ => 0)))), (q11, .inr (7, [.int 0, .int 0, .int 0, .int 0, .int 0, .int 0, .int 0, .int 0, .ref q12, .int 0, .int 0, .int 0, .int 0, .int 0, .null, .int 0, .int 0, .int 0, .int 0, .int 0])), (q12, .inl (cy 0, (1480, .inl (fun _ => 0)))), (q13, .inr (7, [.int 0, .int 0, .int 0, .int 0, .int 0, .int 0, .int 0, .int 0, .ref q14, .int 0, .int 0, .int 0, .int 0, .int 0, .null, .int 0, .int 0, .int 0, .int 0, .int 0])), (q14, .inl (cy 0, (1480, .inl (fun _ => 0)))), (q15, .inr (9, [.ref q16, .int 0, .ref q17, .ref q18, .ref q19, .int 0, .ref q20, .ref q21, .ref q22, .int 0, .int (1 : Int32), .int 0, .ref q23])), (q16, .inl (cy 1, (16, .inl (fun _ => 0)))), (q17, .inl (cy 1, (96, .inl (fun _ => 0)))), (q18, .inl (cy 3, (96, .inl (fun _ => 0)))), (q19, .inl (cy 4, (96, .inr (.inr (.inr (.inr (fun i => if i < 96 then some (q19 + 1 + i) else none))))))), (q19 + 1 + 0, .inl (cy 1, (16, .inl (fun _ => 0)))), (q19 + 1 + 1, .inl (cy 1, (16, .inl (fun _ => 0)))), (q19 + 1 + 2, .inl (cy 1, (16, .inl (fun _ => 0)))), (q19 + 1 + 3, .inl (cy 1, (16, .inl (fun _ => 0)))), (q19 + 1 + 4, .inl (cy 1, (16, .inl (fun _ => 0)))), (q19 + 1 + 5, .inl (cy 1, (16, .inl (fun _ => 0)))), (q19 + 1 + 6, .inl (cy 1, (16, .inl (fun _ => 0)))), (q19 + 1 + 7, .inl (cy 1, (16, .inl (fun _ => 0)))), (q19 + 1 + 8, .inl (cy 1, (16, .inl (fun _ => 0)))), (q19 + 1 + 9, .inl (cy 1, (16, .inl (fun _ => 0)))), (q19 + 1 + 10, .inl (cy 1, (16, .inl (fun _ => 0)))), (q19 + 1 + 11, .inl (cy 1, (16, .inl (fun _ => 0)))), (q19 + 1 + 12, .inl (cy 1, (16, .inl (fun _ => 0)))), (q19 + 1 + 13, .inl (cy 1, (16, .inl (fun _ => 0)))), (q19 + 1 + 14, .inl (cy 1, (16, .inl (fun _ => 0)))), (q19 + 1 + 15, .inl (cy 1, (16, .inl (fun _ => 0)))), (q19 + 1 + 16, .inl (cy 1, (16, .inl (fun _ => 0)))), (q19 + 1 + 17, .inl (cy 1, (16, .inl (fun _ => 0)))), (q19 + 1 + 18, .inl (cy 1, (16, .inl (fun _ => 0)))), (q19 + 1 + 19, .inl (cy 1, (16, .inl (fun _ => 0)))), (q19 + 1 + 20, .inl (cy 1, (16, .inl (fun _ => 0)))), (q19 + 1 + 21, .inl (cy 1, (16, .inl (fun _ => 0)))), (q19 + 1 + 22, .inl (cy 1, (16, .inl (fun _ => 0)))), (q19 + 1 + 23, .inl (cy 1, (16, .inl (fun _ => 0)))), (q19 + 1 + 24, .inl (cy 1, (16, .inl (fun _ => 0)))), (q19 + 1 + 25, .inl (cy 1, (16, .inl (fun _ => 0)))), (q19 + 1 + 26, .inl (cy 1, (16, .inl (fun _ => 0)))), (q19 + 1 + 27, .inl (cy 1, (16, .inl (fun _ => 0)))), (q19 + 1 + 28, .inl (cy 1, (16, .inl (fun _ => 0)))), (q19 + 1 + 29, .inl (cy 1, (16, .inl (fun _ => 0)))), (q19 + 1 + 30, .inl (cy 1, (16, .inl (fun _ => 0)))), (q19 + 1 + 31, .inl (cy 1, (16, .inl (fun _ => 0)))), (q19 + 1 + 32, .inl (cy 1, (16, .inl (fun _ => 0)))), (q19 + 1 + 33, .inl (cy 1, (16, .inl (fun _ => 0)))), (q19 + 1 + 34, .inl (cy 1, (16, .inl (fun _ => 0)))), (q19 + 1 + 35, .inl (cy 1, (16, .inl (fun _ => 0)))), (q19 + 1 + 36, .inl (cy 1, (16, .inl (fun _ => 0)))), (q19 + 1 + 37, .inl (cy 1, (16, .inl (fun _ => 0)))), (q19 + 1 + 38, .inl (cy 1, (16, .inl (fun _ => 0)))), (q19 + 1 + 39, .inl (cy 1, (16, .inl (fun _ => 0)))), (q19 + 1 + 40, .inl (cy 1, (16, .inl (fun _ => 0)))), (q19 + 1 + 41, .inl (cy 1, (16, .inl (fun _ => 0)))), (q19 + 1 + 42, .inl (cy 1, (16, .inl (fun _ => 0)))), (q19 + 1 + 43, .inl (cy 1, (16, .inl (fun _ => 0)))), (q19 + 1 + 44, .inl (cy 1, (16, .inl (fun _ => 0)))), (q19 + 1 + 45, .inl (cy 1, (16, .inl (fun _ => 0)))), (q19 + 1 + 46, .inl (cy 1, (16, .inl (fun _ => 0)))), (q19 + 1 + 47, .inl (cy 1, (16, .inl (fun _ => 0)))), (q19 + 1 + 48, .inl (cy 1, (16, .inl (fun _ => 0)))), (q19 + 1 + 49, .inl (cy 1, (16, .inl (fun _ => 0)))), (q19 + 1 + 50, .inl (cy 1, (16, .inl (fun _ => 0)))), (q19 + 1 + 51, .inl (cy 1, (16, .inl (fun _ => 0)))), (q19 + 1 + 52, .inl (cy 1, (16, .inl (fun _ => 0)))), (q19 + 1 + 53, .inl (cy 1, (16, .inl (fun _ => 0)))), (q19 + 1 + 54, .inl (cy 1, (16, .inl (fun _ => 0)))), (q19 + 1 + 55, .inl (cy 1, (16, .inl (fun _ => 0)))), (q19 + 1 + 56, .inl (cy 1, (16, .inl (fun _ => 0)))), (q19 + 1 + 57, .inl (cy 1, (16, .inl (fun _ => 0)))), (q19 + 1 + 58, .inl (cy 1, (16, .inl (fun _ => 0)))), (q19 + 1 + 59, .inl (cy 1, (16, .inl (fun _ => 0)))), (q19 + 1 + 60, .inl (cy 1, (16, .inl (fun _ => 0)))), (q19 + 1 + 61, .inl (cy 1, (16, .inl (fun _ => 0)))), (q19 + 1 + 62, .inl (cy 1, (16, .inl (fun _ => 0)))), (q19 + 1 + 63, .inl (cy 1, (16, .inl (fun _ => 0)))), (q19 + 1 + 64, .inl (cy 1, (16, .inl (fun _ => 0)))), (q19 + 1 + 65, .inl (cy 1, (16, .inl (fun _ => 0)))), (q19 + 1 + 66, .inl (cy 1, (16, .inl (fun _ => 0)))), (q19 + 1 + 67, .inl (cy 1, (16, .inl (fun _ => 0)))), (q19 + 1 + 68, .inl (cy 1, (16, .inl (fun _ => 0)))), (q19 + 1 + 69, .inl (cy 1, (16, .inl (fun _ => 0)))), (q19 + 1 + 70, .inl (cy 1, (16, .inl (fun _ => 0)))), (q19 + 1 + 71, .inl (cy 1, (16, .inl (fun _ => 0)))), (q19 + 1 + 72, .inl (cy 1, (16, .inl (fun _ => 0)))), (q19 + 1 + 73, .inl (cy 1, (16, .inl (fun _ => 0)))), (q19 + 1 + 74, .inl (cy 1, (16, .inl (fun _ => 0)))), (q19 + 1 + 75, .inl (cy 1, (16, .inl (fun _ => 0)))), (q19 + 1 + 76, .inl (cy 1, (16, .inl (fun _ => 0)))), (q19 + 1 + 77, .inl (cy 1, (16, .inl (fun _ => 0)))), (q19 + 1 + 78, .inl (cy 1, (16, .inl (fun _ => 0)))), (q19 + 1 + 79, .inl (cy 1, (16, .inl (fun _ => 0)))), (q19 + 1 + 80, .inl (cy 1, (16, .inl (fun _ => 0)))), (q19 + 1 + 81, .inl (cy 1, (16, .inl (fun _ => 0)))), (q19 + 1 + 82, .inl (cy 1, (16, .inl (fun _ => 0)))), (q19 + 1 + 83, .inl (cy 1, (16, .inl (fun _ => 0)))), (q19 + 1 + 84, .inl (cy 1, (16, .inl (fun _ => 0)))), (q19 + 1 + 85, .inl (cy 1, (16, .inl (fun _ => 0)))), (q19 + 1 + 86, .inl (cy 1, (16, .inl (fun _ => 0)))), (q19 + 1 + 87, .inl (cy 1, (16, .inl (fun _ => 0)))), (q19 + 1 + 88, .inl (cy 1, (16, .inl (fun _ => 0)))), (q19 + 1 + 89, .inl (cy 1, (16, .inl (fun _ => 0)))), (q19 + 1 + 90, .inl (cy 1, (16, .inl (fun _ => 0)))), (q19 + 1 + 91, .inl (cy 1, (16, .inl (fun _ => 0)))), (q19 + 1 + 92, .inl (cy 1, (16, .inl (fun _ => 0)))), (q19 + 1 + 93, .inl (cy 1, (16, .inl (fun _ => 0)))), (q19 + 1 + 94, .inl (cy 1, (16, .inl (fun _ => 0)))), (q19 + 1 + 95, .inl (cy 1, (16, .inl (fun _ => 0)))), (q20, .inl (cy 1, (64, .inl (fun _ => 0)))), (q21, .inl (cy 1, (64, .inl (fun _ => 0)))), (q22, .inl (cy 1, (64, .inl (fun _ => 0)))), (q23, .inr (0, [.int x1, .ref q24, .ref q25, .ref q26, .ref q27, .ref q28, .int 0, .int 0, .int 0, .int (1 : Int32), .ref q29, .ref q30, .ref q31, .ref q32, .ref q33, .ref q34])), (q24, .inl (cy 1, (16, .inl (fun _ => 0)))), (q25, .inl (cy 1, (16, .inl (fun _ => 0)))), (q26, .inl (cy 1, (16, .inl (fun _ => 0)))), (q27, .inl (cy 4, (16, .inr (.inr (.inr (.inr (fun i => if i < 16 then some (q27 + 1 + i) else none))))))), (q27 + 1 + 0, .inl (cy 1, (24, .inl (fun _ => 0)))), (q27 + 1 + 1, .inl (cy 1, (24, .inl (fun _ => 0)))), (q27 + 1 + 2, .inl (cy 1, (24, .inl (fun _ => 0)))), (q27 + 1 + 3, .inl (cy 1, (24, .inl (fun _ => 0)))), (q27 + 1 + 4, .inl (cy 1, (24, .inl (fun _ => 0)))), (q27 + 1 + 5, .inl (cy 1, (24, .inl (fun _ => 0)))), (q27 + 1 + 6, .inl (cy 1, (24, .inl (fun _ => 0)))), (q27 + 1 + 7, .inl (cy 1, (24, .inl (fun _ => 0)))), (q27 + 1 + 8, .inl (cy 1, (24, .inl (fun _ => 0)))), (q27 + 1 + 9, .inl (cy 1, (24, .inl (fun _ => 0)))), (q27 + 1 + 10, .inl (cy 1, (24, .inl (fun _ => 0)))), (q27 + 1 + 11, .inl (cy 1, (24, .inl (fun _ => 0)))), (q27 + 1 + 12, .inl (cy 1, (24, .inl (fun _ => 0)))), (q27 + 1 + 13, .inl (cy 1, (24, .inl (fun _ => 0)))), (q27 + 1 + 14, .inl (cy 1, (24, .inl (fun _ => 0)))), (q27 + 1 + 15, .inl (cy 1, (24, .inl (fun _ => 0)))), (q28, .inl (cy 1, (24, .inl (fun _ => 0)))), (q29, .inl (cy 1, (24, .inl (fun i => if i < 24 then (-1 : Int32) else 0)))), (q30, .inl (cy 1, (24, .inl (fun i => if i < 24 then (-1 : Int32) else 0)))), (q31, .inl (cy 1, (24, .inl (fun i => if i < 24 then (-1 : Int32) else 0)))), (q32, .inl (cy 1, (16, .inl (fun _ => 0)))), (q33, .inl (cy 3, (16, .inl (fun _ => 0)))), (q34, .inl (cy 1, (16, .inl (fun _ => 0)))), (q35, .inl (cy 8, (0, .inr (.inr (.inr (.inr (fun _ => none)))))))] H locs) : ∃ B1 : Nat → Nat → Nat, (∀ k o, (k, o) ∈ ids → B1 k o = B k o) ∧ B1 1 o = h0 ∧ zSt B1 (ids ++ znmX1_r o) ∧ (∀ z2, va_D A (zw cy B1 (ids ++ znmX1_r o) z2)) ∧ zI9 (ids ++ znmX1_r o) ∧ zRep D cy B1 (ids ++ znmX1_r o) A H0 (zmg (znmX1_r o) (zmwX1_r o x1) z) H locs := by
  obtain ⟨B1, hB, hm⟩ := zBx B ids (znmX1_r o) [h0, q1, q2, q3, q4, q4 + 1 + 0, q4 + 1 + 1, q4 + 1 + 2, q4 + 1 + 3, q5, q6, q7, q8, q9, q10, q11, q12, q13, q14, q15, q16, q17, q18, q19, q19 + 1 + 0, q19 + 1 + 1, q19 + 1 + 2, q19 + 1 + 3, q19 + 1 + 4, q19 + 1 + 5, q19 + 1 + 6, q19 + 1 + 7, q19 + 1 + 8, q19 + 1 + 9, q19 + 1 + 10, q19 + 1 + 11, q19 + 1 + 12, q19 + 1 + 13, q19 + 1 + 14, q19 + 1 + 15, q19 + 1 + 16, q19 + 1 + 17, q19 + 1 + 18, q19 + 1 + 19, q19 + 1 + 20, q19 + 1 + 21, q19 + 1 + 22, q19 + 1 + 23, q19 + 1 + 24, q19 + 1 + 25, q19 + 1 + 26, q19 + 1 + 27, q19 + 1 + 28, q19 + 1 + 29, q19 + 1 + 30, q19 + 1 + 31, q19 + 1 + 32, q19 + 1 + 33, q19 + 1 + 34, q19 + 1 + 35, q19 + 1 + 36, q19 + 1 + 37, q19 + 1 + 38, q19 + 1 + 39, q19 + 1 + 40, q19 + 1 + 41, q19 + 1 + 42, q19 + 1 + 43, q19 + 1 + 44, q19 + 1 + 45, q19 + 1 + 46, q19 + 1 + 47, q19 + 1 + 48, q19 + 1 + 49, q19 + 1 + 50, q19 + 1 + 51, q19 + 1 + 52, q19 + 1 + 53, q19 + 1 + 54, q19 + 1 + 55, q19 + 1 + 56, q19 + 1 + 57, q19 + 1 + 58, q19 + 1 + 59, q19 + 1 + 60, q19 + 1 + 61, q19 + 1 + 62, q19 + 1 + 63, q19 + 1 + 64, q19 + 1 + 65, q19 + 1 + 66, q19 + 1 + 67, q19 + 1 + 68, q19 + 1 + 69, q19 + 1 + 70, q19 + 1 + 71, q19 + 1 + 72, q19 + 1 + 73, q19 + 1 + 74, q19 + 1 + 75, q19 + 1 + 76, q19 + 1 + 77, q19 + 1 + 78, q19 + 1 + 79, q19 + 1 + 80, q19 + 1 + 81, q19 + 1 + 82, q19 + 1 + 83, q19 + 1 + 84, q19 + 1 + 85, q19 + 1 + 86, q19 + 1 + 87, q19 + 1 + 88, q19 + 1 + 89, q19 + 1 + 90, q19 + 1 + 91, q19 + 1 + 92, q19 + 1 + 93, q19 + 1 + 94, q19 + 1 + 95, q20, q21, q22, q23, q24, q25, q26, q27, q27 + 1 + 0, q27 + 1 + 1, q27 + 1 + 2, q27 + 1 + 3, q27 + 1 + 4, q27 + 1 + 5, q27 + 1 + 6, q27 + 1 + 7, q27 + 1 + 8, q27 + 1 + 9, q27 + 1 + 10, q27 + 1 + 11, q27 + 1 + 12, q27 + 1 + 13, q27 + 1 + 14, q27 + 1 + 15, q28, q29, q30, q31, q32, q33, q34, q35] rfl hfr.1 hfr.2
  simp only [znmX1_r, List.map_cons, List.map_nil, List.cons.injEq] at hm
  obtain ⟨e0, e1, e2, e3, e4, e5, e6, e7, e8, e9, e10, e11, e12, e13, e14, e15, e16, e17, e18, e19, e20, e21, e22, e23, e24, e25, e26, e27, e28, e29, e30, e31, e32, e33, e34, e35, e36, e37, e38, e39, e40, e41, e42, e43, e44, e45, e46, e47, e48, e49, e50, e51, e52, e53, e54, e55, e56, e57, e58, e59, e60, e61, e62, e63, e64, e65, e66, e67, e68, e69, e70, e71, e72, e73, e74, e75, e76, e77, e78, e79, e80, e81, e82, e83, e84, e85, e86, e87, e88, e89, e90, e91, e92, e93, e94, e95, e96, e97, e98, e99, e100, e101, e102, e103, e104, e105, e106, e107, e108, e109, e110, e111, e112, e113, e114, e115, e116, e117, e118, e119, e120, e121, e122, e123, e124, e125, e126, e127, e128, e129, e130, e131, e132, e133, e134, e135, e136, e137, e138, e139, e140, e141, e142, e143, e144, e145, e146, e147, e148, e149, e150, e151, -⟩ := hm
  have zrow115 : ∀ i, i < 4 → B1 116 (o * 4 + i) = q4 + 1 + i := fun i hi => by
    match i, hi with
    | 0, _ => exact e5
    | 1, _ => exact e6
    | 2, _ => exact e7
    | 3, _ => exact e8
    | n + 4, hn => omega
  have zrow134 : ∀ i, i < 96 → B1 135 (o * 96 + i) = q19 + 1 + i := fun i hi => by
    match i, hi with
    | 0, _ => exact e24
    | 1, _ => exact e25
    | 2, _ => exact e26
    | 3, _ => exact e27
    | 4, _ => exact e28
    | 5, _ => exact e29
    | 6, _ => exact e30
    | 7, _ => exact e31
    | 8, _ => exact e32
    | 9, _ => exact e33
    | 10, _ => exact e34
    | 11, _ => exact e35
    | 12, _ => exact e36
    | 13, _ => exact e37
    | 14, _ => exact e38
    | 15, _ => exact e39
    | 16, _ => exact e40
    | 17, _ => exact e41
    | 18, _ => exact e42
    | 19, _ => exact e43
    | 20, _ => exact e44
    | 21, _ => exact e45
    | 22, _ => exact e46
    | 23, _ => exact e47
    | 24, _ => exact e48
    | 25, _ => exact e49
    | 26, _ => exact e50
    | 27, _ => exact e51
    | 28, _ => exact e52
    | 29, _ => exact e53
    | 30, _ => exact e54
    | 31, _ => exact e55
    | 32, _ => exact e56
    | 33, _ => exact e57
    | 34, _ => exact e58
    | 35, _ => exact e59
    | 36, _ => exact e60
    | 37, _ => exact e61
    | 38, _ => exact e62
    | 39, _ => exact e63
    | 40, _ => exact e64
    | 41, _ => exact e65
    | 42, _ => exact e66
    | 43, _ => exact e67
    | 44, _ => exact e68
    | 45, _ => exact e69
    | 46, _ => exact e70
    | 47, _ => exact e71
    | 48, _ => exact e72
    | 49, _ => exact e73
    | 50, _ => exact e74
    | 51, _ => exact e75
    | 52, _ => exact e76
    | 53, _ => exact e77
    | 54, _ => exact e78
    | 55, _ => exact e79
    | 56, _ => exact e80
    | 57, _ => exact e81
    | 58, _ => exact e82
    | 59, _ => exact e83
    | 60, _ => exact e84
    | 61, _ => exact e85
    | 62, _ => exact e86
    | 63, _ => exact e87
    | 64, _ => exact e88
    | 65, _ => exact e89
    | 66, _ => exact e90
    | 67, _ => exact e91
    | 68, _ => exact e92
    | 69, _ => exact e93
    | 70, _ => exact e94
    | 71, _ => exact e95
    | 72, _ => exact e96
    | 73, _ => exact e97
    | 74, _ => exact e98
    | 75, _ => exact e99
    | 76, _ => exact e100
    | 77, _ => exact e101
    | 78, _ => exact e102
    | 79, _ => exact e103
    | 80, _ => exact e104
    | 81, _ => exact e105
    | 82, _ => exact e106
    | 83, _ => exact e107
    | 84, _ => exact e108
    | 85, _ => exact e109
    | 86, _ => exact e110
    | 87, _ => exact e111
    | 88, _ => exact e112
    | 89, _ => exact e113
    | 90, _ => exact e114
    | 91, _ => exact e115
    | 92, _ => exact e116
    | 93, _ => exact e117
    | 94, _ => exact e118
    | 95, _ => exact e119
    | n + 96, hn => omega
  have zrow103 : ∀ i, i < 16 → B1 104 (o * 16 + i) = q27 + 1 + i := fun i hi => by
    match i, hi with
    | 0, _ => exact e128
    | 1, _ => exact e129
    | 2, _ => exact e130
    | 3, _ => exact e131
    | 4, _ => exact e132
    | 5, _ => exact e133
    | 6, _ => exact e134
    | 7, _ => exact e135
    | 8, _ => exact e136
    | 9, _ => exact e137
    | 10, _ => exact e138
    | 11, _ => exact e139
    | 12, _ => exact e140
    | 13, _ => exact e141
    | 14, _ => exact e142
    | 15, _ => exact e143
    | n + 16, hn => omega
  have hcl : zClN (znmX1_r o) := zClN_box (zClN_app (zClN_ob (k := 7) (o := (515 + 4 * o + 0)) (by decide)) (zClN_app (zClN_ob (k := 7) (o := (515 + 4 * o + 1)) (by decide)) (zClN_app (zClN_ob (k := 7) (o := (515 + 4 * o + 2)) (by decide)) (zClN_app (zClN_ob (k := 7) (o := (515 + 4 * o + 3)) (by decide)) (zClN_app (zClN_ob (k := 9) (o := o) (by decide)) (zClN_app (zClN_ob (k := 0) (o := o) (by decide)) (zClN_nil))))))) (zClN_nil)
  have hw : zWf (ids ++ znmX1_r o) (zmwX1_r o x1) := (zWf_fl (zWf_fl (zWf_fl (zWf_sQ (zWf_sQ (zWf_sQ (zWf_sQ (zWf_sI (zWf_sI (zWf_sR (zWf_sI (zWf_sR (zWf_sI (zWf_sI (zWf_z _) _ _ _ _) _ _ _ _) (fun t e => by cases e; exact (List.mem_append_right _ (List.mem_of_getElem? (l := znmX1_r o) (i := 19) rfl)))) _ _ _ _) (fun t e => by cases e; exact (List.mem_append_right _ (List.mem_of_getElem? (l := znmX1_r o) (i := 123) rfl)))) _ _ _ _) _ _ _ _) (fun t e => by cases e; exact (List.mem_append_right _ (List.mem_of_getElem? (l := znmX1_r o) (i := 11) rfl)))) (fun t e => by cases e; exact (List.mem_append_right _ (List.mem_of_getElem? (l := znmX1_r o) (i := 13) rfl)))) (fun t e => by cases e; exact (List.mem_append_right _ (List.mem_of_getElem? (l := znmX1_r o) (i := 15) rfl)))) (fun t e => by cases e; exact (List.mem_append_right _ (List.mem_of_getElem? (l := znmX1_r o) (i := 17) rfl)))) (by decide)) (by decide)) (by decide))
  have m0 : (1, o) ∈ znmX1_r o := List.mem_of_getElem? (i := 0) rfl
  have m1 : (112, o) ∈ znmX1_r o := List.mem_of_getElem? (i := 1) rfl
  have m2 : (113, o) ∈ znmX1_r o := List.mem_of_getElem? (i := 2) rfl
  have m3 : (114, o) ∈ znmX1_r o := List.mem_of_getElem? (i := 3) rfl
  have m4 : (115, o) ∈ znmX1_r o := List.mem_of_getElem? (i := 4) rfl
  have m5 : (116, (o * 4 + 0)) ∈ znmX1_r o := List.mem_of_getElem? (i := 5) rfl
  have m6 : (116, (o * 4 + 1)) ∈ znmX1_r o := List.mem_of_getElem? (i := 6) rfl
  have m7 : (116, (o * 4 + 2)) ∈ znmX1_r o := List.mem_of_getElem? (i := 7) rfl
  have m8 : (116, (o * 4 + 3)) ∈ znmX1_r o := List.mem_of_getElem? (i := 8) rfl
  have m9 : (117, o) ∈ znmX1_r o := List.mem_of_getElem? (i := 9) rfl
  have m10 : (118, o) ∈ znmX1_r o := List.mem_of_getElem? (i := 10) rfl
  have m11 : (7, (515 + 4 * o + 0)) ∈ znmX1_r o := List.mem_of_getElem? (i := 11) rfl
  have m12 : (125, (515 + 4 * o + 0)) ∈ znmX1_r o := List.mem_of_getElem? (i := 12) rfl
  have m13 : (7, (515 + 4 * o + 1)) ∈ znmX1_r o := List.mem_of_getElem? (i := 13) rfl
  have m14 : (125, (515 + 4 * o + 1)) ∈ znmX1_r o := List.mem_of_getElem? (i := 14) rfl
  have m15 : (7, (515 + 4 * o + 2)) ∈ znmX1_r o := List.mem_of_getElem? (i := 15) rfl
  have m16 : (125, (515 + 4 * o + 2)) ∈ znmX1_r o := List.mem_of_getElem? (i := 16) rfl
  have m17 : (7, (515 + 4 * o + 3)) ∈ znmX1_r o := List.mem_of_getElem? (i := 17) rfl
  have m18 : (125, (515 + 4 * o + 3)) ∈ znmX1_r o := List.mem_of_getElem? (i := 18) rfl
  have m19 : (9, o) ∈ znmX1_r o := List.mem_of_getElem? (i := 19) rfl
  have m20 : (131, o) ∈ znmX1_r o := List.mem_of_getElem? (i := 20) rfl
  have m21 : (132, o) ∈ znmX1_r o := List.mem_of_getElem? (i := 21) rfl
  have m22 : (133, o) ∈ znmX1_r o := List.mem_of_getElem? (i := 22) rfl
  have m23 : (134, o) ∈ znmX1_r o := List.mem_of_getElem? (i := 23) rfl
  have m24 : (135, (o * 96 + 0)) ∈ znmX1_r o := List.mem_of_getElem? (i := 24) rfl
  have m25 : (135, (o * 96 + 1)) ∈ znmX1_r o := List.mem_of_getElem? (i := 25) rfl
  have m26 : (135, (o * 96 + 2)) ∈ znmX1_r o := List.mem_of_getElem? (i := 26) rfl
  have m27 : (135, (o * 96 + 3)) ∈ znmX1_r o := List.mem_of_getElem? (i := 27) rfl
  have m28 : (135, (o * 96 + 4)) ∈ znmX1_r o := List.mem_of_getElem? (i := 28) rfl
  have m29 : (135, (o * 96 + 5)) ∈ znmX1_r o := List.mem_of_getElem? (i := 29) rfl
  have m30 : (135, (o * 96 + 6)) ∈ znmX1_r o := List.mem_of_getElem? (i := 30) rfl
  have m31 : (135, (o * 96 + 7)) ∈ znmX1_r o := List.mem_of_getElem? (i := 31) rfl
  have m32 : (135, (o * 96 + 8)) ∈ znmX1_r o := List.mem_of_getElem? (i := 32) rfl
  have m33 : (135, (o * 96 + 9)) ∈ znmX1_r o := List.mem_of_getElem? (i := 33) rfl
  have m34 : (135, (o * 96 + 10)) ∈ znmX1_r o := List.mem_of_getElem? (i := 34) rfl
  have m35 : (135, (o * 96 + 11)) ∈ znmX1_r o := List.mem_of_getElem? (i := 35) rfl
  have m36 : (135, (o * 96 + 12)) ∈ znmX1_r o := List.mem_of_getElem? (i := 36) rfl
  have m37 : (135, (o * 96 + 13)) ∈ znmX1_r o := List.mem_of_getElem? (i := 37) rfl
  have m38 : (135, (o * 96 + 14)) ∈ znmX1_r o := List.mem_of_getElem? (i := 38) rfl
  have m39 : (135, (o * 96 + 15)) ∈ znmX1_r o := List.mem_of_getElem? (i := 39) rfl
  have m40 : (135, (o * 96 + 16)) ∈ znmX1_r o := List.mem_of_getElem? (i := 40) rfl
  have m41 : (135, (o * 96 + 17)) ∈ znmX1_r o := List.mem_of_getElem? (i := 41) rfl
  have m42 : (135, (o * 96 + 18)) ∈ znmX1_r o := List.mem_of_getElem? (i := 42) rfl
  have m43 : (135, (o * 96 + 19)) ∈ znmX1_r o := List.mem_of_getElem? (i := 43) rfl
  have m44 : (135, (o * 96 + 20)) ∈ znmX1_r o := List.mem_of_getElem? (i := 44) rfl
  have m45 : (135, (o * 96 + 21)) ∈ znmX1_r o := List.mem_of_getElem? (i := 45) rfl
  have m46 : (135, (o * 96 + 22)) ∈ znmX1_r o := List.mem_of_getElem? (i := 46) rfl
  have m47 : (135, (o * 96 + 23)) ∈ znmX1_r o := List.mem_of_getElem? (i := 47) rfl
  have m48 : (135, (o * 96 + 24)) ∈ znmX1_r o := List.mem_of_getElem? (i := 48) rfl
  have m49 : (135, (o * 96 + 25)) ∈ znmX1_r o := List.mem_of_getElem? (i := 49) rfl
  have m50 : (135, (o * 96 + 26)) ∈ znmX1_r o := List.mem_of_getElem? (i := 50) rfl
  have m51 : (135, (o * 96 + 27)) ∈ znmX1_r o := List.mem_of_getElem? (i := 51) rfl
  have m52 : (135, (o * 96 + 28)) ∈ znmX1_r o := List.mem_of_getElem? (i := 52) rfl
  have m53 : (135, (o * 96 + 29)) ∈ znmX1_r o := List.mem_of_getElem? (i := 53) rfl
  have m54 : (135, (o * 96 + 30)) ∈ znmX1_r o := List.mem_of_getElem? (i := 54) rfl
  have m55 : (135, (o * 96 + 31)) ∈ znmX1_r o := List.mem_of_getElem? (i := 55) rfl
  have m56 : (135, (o * 96 + 32)) ∈ znmX1_r o := List.mem_of_getElem? (i := 56) rfl
  have m57 : (135, (o * 96 + 33)) ∈ znmX1_r o := List.mem_of_getElem? (i := 57) rfl
  have m58 : (135, (o * 96 + 34)) ∈ znmX1_r o := List.mem_of_getElem? (i := 58) rfl
  have m59 : (135, (o * 96 + 35)) ∈ znmX1_r o := List.mem_of_getElem? (i := 59) rfl
  have m60 : (135, (o * 96 + 36)) ∈ znmX1_r o := List.mem_of_getElem? (i := 60) rfl
  have m61 : (135, (o * 96 + 37)) ∈ znmX1_r o := List.mem_of_getElem? (i := 61) rfl
  have m62 : (135, (o * 96 + 38)) ∈ znmX1_r o := List.mem_of_getElem? (i := 62) rfl
  have m63 : (135, (o * 96 + 39)) ∈ znmX1_r o := List.mem_of_getElem? (i := 63) rfl
  have m64 : (135, (o * 96 + 40)) ∈ znmX1_r o := List.mem_of_getElem? (i := 64) rfl
  have m65 : (135, (o * 96 + 41)) ∈ znmX1_r o := List.mem_of_getElem? (i := 65) rfl
  have m66 : (135, (o * 96 + 42)) ∈ znmX1_r o := List.mem_of_getElem? (i := 66) rfl
  have m67 : (135, (o * 96 + 43)) ∈ znmX1_r o := List.mem_of_getElem? (i := 67) rfl
  have m68 : (135, (o * 96 + 44)) ∈ znmX1_r o := List.mem_of_getElem? (i := 68) rfl
  have m69 : (135, (o * 96 + 45)) ∈ znmX1_r o := List.mem_of_getElem? (i := 69) rfl
  have m70 : (135, (o * 96 + 46)) ∈ znmX1_r o := List.mem_of_getElem? (i := 70) rfl
  have m71 : (135, (o * 96 + 47)) ∈ znmX1_r o := List.mem_of_getElem? (i := 71) rfl
  have m72 : (135, (o * 96 + 48)) ∈ znmX1_r o := List.mem_of_getElem? (i := 72) rfl
  have m73 : (135, (o * 96 + 49)) ∈ znmX1_r o := List.mem_of_getElem? (i := 73) rfl
  have m74 : (135, (o * 96 + 50)) ∈ znmX1_r o := List.mem_of_getElem? (i := 74) rfl
  have m75 : (135, (o * 96 + 51)) ∈ znmX1_r o := List.mem_of_getElem? (i := 75) rfl
  have m76 : (135, (o * 96 + 52)) ∈ znmX1_r o := List.mem_of_getElem? (i := 76) rfl
  have m77 : (135, (o * 96 + 53)) ∈ znmX1_r o := List.mem_of_getElem? (i := 77) rfl
  have m78 : (135, (o * 96 + 54)) ∈ znmX1_r o := List.mem_of_getElem? (i := 78) rfl
  have m79 : (135, (o * 96 + 55)) ∈ znmX1_r o := List.mem_of_getElem? (i := 79) rfl
  have m80 : (135, (o * 96 + 56)) ∈ znmX1_r o := List.mem_of_getElem? (i := 80) rfl
  have m81 : (135, (o * 96 + 57)) ∈ znmX1_r o := List.mem_of_getElem? (i := 81) rfl
  have m82 : (135, (o * 96 + 58)) ∈ znmX1_r o := List.mem_of_getElem? (i := 82) rfl
  have m83 : (135, (o * 96 + 59)) ∈ znmX1_r o := List.mem_of_getElem? (i := 83) rfl
  have m84 : (135, (o * 96 + 60)) ∈ znmX1_r o := List.mem_of_getElem? (i := 84) rfl
  have m85 : (135, (o * 96 + 61)) ∈ znmX1_r o := List.mem_of_getElem? (i := 85) rfl
  have m86 : (135, (o * 96 + 62)) ∈ znmX1_r o := List.mem_of_getElem? (i := 86) rfl
  have m87 : (135, (o * 96 + 63)) ∈ znmX1_r o := List.mem_of_getElem? (i := 87) rfl
  have m88 : (135, (o * 96 + 64)) ∈ znmX1_r o := List.mem_of_getElem? (i := 88) rfl
  have m89 : (135, (o * 96 + 65)) ∈ znmX1_r o := List.mem_of_getElem? (i := 89) rfl
  have m90 : (135, (o * 96 + 66)) ∈ znmX1_r o := List.mem_of_getElem? (i := 90) rfl
  have m91 : (135, (o * 96 + 67)) ∈ znmX1_r o := List.mem_of_getElem? (i := 91) rfl
  have m92 : (135, (o * 96 + 68)) ∈ znmX1_r o := List.mem_of_getElem? (i := 92) rfl
  have m93 : (135, (o * 96 + 69)) ∈ znmX1_r o := List.mem_of_getElem? (i := 93) rfl
  have m94 : (135, (o * 96 + 70)) ∈ znmX1_r o := List.mem_of_getElem? (i := 94) rfl
  have m95 : (135, (o * 96 + 71)) ∈ znmX1_r o := List.mem_of_getElem? (i := 95) rfl
  have m96 : (135, (o * 96 + 72)) ∈ znmX1_r o := List.mem_of_getElem? (i := 96) rfl
  have m97 : (135, (o * 96 + 73)) ∈ znmX1_r o := List.mem_of_getElem? (i := 97) rfl
  have m98 : (135, (o * 96 + 74)) ∈ znmX1_r o := List.mem_of_getElem? (i := 98) rfl
  have m99 : (135, (o * 96 + 75)) ∈ znmX1_r o := List.mem_of_getElem? (i := 99) rfl
  have m100 : (135, (o * 96 + 76)) ∈ znmX1_r o := List.mem_of_getElem? (i := 100) rfl
  have m101 : (135, (o * 96 + 77)) ∈ znmX1_r o := List.mem_of_getElem? (i := 101) rfl
  have m102 : (135, (o * 96 + 78)) ∈ znmX1_r o := List.mem_of_getElem? (i := 102) rfl
  have m103 : (135, (o * 96 + 79)) ∈ znmX1_r o := List.mem_of_getElem? (i := 103) rfl
  have m104 : (135, (o * 96 + 80)) ∈ znmX1_r o := List.mem_of_getElem? (i := 104) rfl
  have m105 : (135, (o * 96 + 81)) ∈ znmX1_r o := List.mem_of_getElem? (i := 105) rfl
  have m106 : (135, (o * 96 + 82)) ∈ znmX1_r o := List.mem_of_getElem? (i := 106) rfl
  have m107 : (135, (o * 96 + 83)) ∈ znmX1_r o := List.mem_of_getElem? (i := 107) rfl
  have m108 : (135, (o * 96 + 84)) ∈ znmX1_r o := List.mem_of_getElem? (i := 108) rfl
  have m109 : (135, (o * 96 + 85)) ∈ znmX1_r o := List.mem_of_getElem? (i := 109) rfl
  have m110 : (135, (o * 96 + 86)) ∈ znmX1_r o := List.mem_of_getElem? (i := 110) rfl
  have m111 : (135, (o * 96 + 87)) ∈ znmX1_r o := List.mem_of_getElem? (i := 111) rfl
  have m112 : (135, (o * 96 + 88)) ∈ znmX1_r o := List.mem_of_getElem? (i := 112) rfl
  have m113 : (135, (o * 96 + 89)) ∈ znmX1_r o := List.mem_of_getElem? (i := 113) rfl
  have m114 : (135, (o * 96 + 90)) ∈ znmX1_r o := List.mem_of_getElem? (i := 114) rfl
  have m115 : (135, (o * 96 + 91)) ∈ znmX1_r o := List.mem_of_getElem? (i := 115) rfl
  have m116 : (135, (o * 96 + 92)) ∈ znmX1_r o := List.mem_of_getElem? (i := 116) rfl
  have m117 : (135, (o * 96 + 93)) ∈ znmX1_r o := List.mem_of_getElem? (i := 117) rfl
  have m118 : (135, (o * 96 + 94)) ∈ znmX1_r o := List.mem_of_getElem? (i := 118) rfl
  have m119 : (135, (o * 96 + 95)) ∈ znmX1_r o := List.mem_of_getElem? (i := 119) rfl
  have m120 : (136, o) ∈ znmX1_r o := List.mem_of_getElem? (i := 120) rfl
  have m121 : (137, o) ∈ znmX1_r o := List.mem_of_getElem? (i := 121) rfl
  have m122 : (138, o) ∈ znmX1_r o := List.mem_of_getElem? (i := 122) rfl
  have m123 : (0, o) ∈ znmX1_r o := List.mem_of_getElem? (i := 123) rfl
  have m124 : (100, o) ∈ znmX1_r o := List.mem_of_getElem? (i := 124) rfl
  have m125 : (101, o) ∈ znmX1_r o := List.mem_of_getElem? (i := 125) rfl
  have m126 : (102, o) ∈ znmX1_r o := List.mem_of_getElem? (i := 126) rfl
  have m127 : (103, o) ∈ znmX1_r o := List.mem_of_getElem? (i := 127) rfl
  have m128 : (104, (o * 16 + 0)) ∈ znmX1_r o := List.mem_of_getElem? (i := 128) rfl
  have m129 : (104, (o * 16 + 1)) ∈ znmX1_r o := List.mem_of_getElem? (i := 129) rfl
  have m130 : (104, (o * 16 + 2)) ∈ znmX1_r o := List.mem_of_getElem? (i := 130) rfl
  have m131 : (104, (o * 16 + 3)) ∈ znmX1_r o := List.mem_of_getElem? (i := 131) rfl
  have m132 : (104, (o * 16 + 4)) ∈ znmX1_r o := List.mem_of_getElem? (i := 132) rfl
  have m133 : (104, (o * 16 + 5)) ∈ znmX1_r o := List.mem_of_getElem? (i := 133) rfl
  have m134 : (104, (o * 16 + 6)) ∈ znmX1_r o := List.mem_of_getElem? (i := 134) rfl
  have m135 : (104, (o * 16 + 7)) ∈ znmX1_r o := List.mem_of_getElem? (i := 135) rfl
  have m136 : (104, (o * 16 + 8)) ∈ znmX1_r o := List.mem_of_getElem? (i := 136) rfl
  have m137 : (104, (o * 16 + 9)) ∈ znmX1_r o := List.mem_of_getElem? (i := 137) rfl
  have m138 : (104, (o * 16 + 10)) ∈ znmX1_r o := List.mem_of_getElem? (i := 138) rfl
  have m139 : (104, (o * 16 + 11)) ∈ znmX1_r o := List.mem_of_getElem? (i := 139) rfl
  have m140 : (104, (o * 16 + 12)) ∈ znmX1_r o := List.mem_of_getElem? (i := 140) rfl
  have m141 : (104, (o * 16 + 13)) ∈ znmX1_r o := List.mem_of_getElem? (i := 141) rfl
  have m142 : (104, (o * 16 + 14)) ∈ znmX1_r o := List.mem_of_getElem? (i := 142) rfl
  have m143 : (104, (o * 16 + 15)) ∈ znmX1_r o := List.mem_of_getElem? (i := 143) rfl
  have m144 : (105, o) ∈ znmX1_r o := List.mem_of_getElem? (i := 144) rfl
  have m145 : (106, o) ∈ znmX1_r o := List.mem_of_getElem? (i := 145) rfl
  have m146 : (107, o) ∈ znmX1_r o := List.mem_of_getElem? (i := 146) rfl
  have m147 : (108, o) ∈ znmX1_r o := List.mem_of_getElem? (i := 147) rfl
  have m148 : (109, o) ∈ znmX1_r o := List.mem_of_getElem? (i := 148) rfl
  have m149 : (110, o) ∈ znmX1_r o := List.mem_of_getElem? (i := 149) rfl
  have m150 : (111, o) ∈ znmX1_r o := List.mem_of_getElem? (i := 150) rfl
  have m151 : (119, o) ∈ znmX1_r o := List.mem_of_getElem? (i := 151) rfl
  have wi1_12 : ∀ o1, zgI (zmwX1_r o x1) 1 12 o1 = 0 := fun _ => rfl
  have wi1_9 : ∀ o1, zgI (zmwX1_r o x1) 1 9 o1 = 0 := fun _ => rfl
  have wi1_3 : ∀ o1, zgI (zmwX1_r o x1) 1 3 o1 = 0 := fun _ => rfl
  have wa113 : ∀ o1 i1, zgA (zmwX1_r o x1) 113 o1 i1 = 0 := fun _ _ => rfl
  have wl116 : ∀ o1 i1, zgL (zmwX1_r o x1) 116 o1 i1 = 0 := fun _ _ => rfl
  have wa117 : ∀ o1 i1, zgA (zmwX1_r o x1) 117 o1 i1 = 0 := fun _ _ => rfl
  have wa118 : ∀ o1 i1, zgA (zmwX1_r o x1) 118 o1 i1 = 0 := fun _ _ => rfl
  have wi7 : ∀ j1 o1, zgI (zmwX1_r o x1) 7 j1 o1 = 0 := fun _ _ => rfl
  have wr7_14 : ∀ o1, zgR (zmwX1_r o x1) 7 14 o1 = none := fun _ => rfl
  have wa125 : ∀ o1 i1, zgA (zmwX1_r o x1) 125 o1 i1 = 0 := fun _ _ => rfl
  have wi9_11 : ∀ o1, zgI (zmwX1_r o x1) 9 11 o1 = 0 := fun _ => rfl
  have wi9_9 : ∀ o1, zgI (zmwX1_r o x1) 9 9 o1 = 0 := fun _ => rfl
  have wi9_5 : ∀ o1, zgI (zmwX1_r o x1) 9 5 o1 = 0 := fun _ => rfl
  have wi9_1 : ∀ o1, zgI (zmwX1_r o x1) 9 1 o1 = 0 := fun _ => rfl
  have wa131 : ∀ o1 i1, zgA (zmwX1_r o x1) 131 o1 i1 = 0 := fun _ _ => rfl
  have wa132 : ∀ o1 i1, zgA (zmwX1_r o x1) 132 o1 i1 = 0 := fun _ _ => rfl
  have wa133 : ∀ o1 i1, zgA (zmwX1_r o x1) 133 o1 i1 = 0 := fun _ _ => rfl
  have wa135 : ∀ o1 i1, zgA (zmwX1_r o x1) 135 o1 i1 = 0 := fun _ _ => rfl
  have wa136 : ∀ o1 i1, zgA (zmwX1_r o x1) 136 o1 i1 = 0 := fun _ _ => rfl
  have wa137 : ∀ o1 i1, zgA (zmwX1_r o x1) 137 o1 i1 = 0 := fun _ _ => rfl
  have wa138 : ∀ o1 i1, zgA (zmwX1_r o x1) 138 o1 i1 = 0 := fun _ _ => rfl
  have wi0_8 : ∀ o1, zgI (zmwX1_r o x1) 0 8 o1 = 0 := fun _ => rfl
  have wi0_7 : ∀ o1, zgI (zmwX1_r o x1) 0 7 o1 = 0 := fun _ => rfl
  have wi0_6 : ∀ o1, zgI (zmwX1_r o x1) 0 6 o1 = 0 := fun _ => rfl
  have wa100 : ∀ o1 i1, zgA (zmwX1_r o x1) 100 o1 i1 = 0 := fun _ _ => rfl
  have wa101 : ∀ o1 i1, zgA (zmwX1_r o x1) 101 o1 i1 = 0 := fun _ _ => rfl
  have wa102 : ∀ o1 i1, zgA (zmwX1_r o x1) 102 o1 i1 = 0 := fun _ _ => rfl
  have wa104 : ∀ o1 i1, zgA (zmwX1_r o x1) 104 o1 i1 = 0 := fun _ _ => rfl
  have wa105 : ∀ o1 i1, zgA (zmwX1_r o x1) 105 o1 i1 = 0 := fun _ _ => rfl
  have wa109 : ∀ o1 i1, zgA (zmwX1_r o x1) 109 o1 i1 = 0 := fun _ _ => rfl
  have wa110 : ∀ o1 i1, zgA (zmwX1_r o x1) 110 o1 i1 = 0 := fun _ _ => rfl
  have wa111 : ∀ o1 i1, zgA (zmwX1_r o x1) 111 o1 i1 = 0 := fun _ _ => rfl
  obtain ⟨s1, s2, s3⟩ := zabs (w := (zmwX1_r o x1)) hst h9 hr hB hfr.1 hfr.2 hcl hw (by
    refine zal2_cons (zceO (k := 1) (o := o) (by decide) e0 (zcons (zfvI m0 rfl (by simp [zmwX1_r, zgI_sI, zgI_sR, zgI_sQ, zgR_sI, zgR_sR, zgR_sQ, zgI_fl, zgR_fl])) (zcons (zfvI m0 rfl (by simp [zmwX1_r, zgI_sI, zgI_sR, zgI_sQ, zgR_sI, zgR_sR, zgR_sQ, zgI_fl, zgR_fl])) (zcons (zfvA rfl e1) (zcons (zfvI m0 rfl (wi1_3 _)) (zcons (zfvA rfl e2) (zcons (zfvA rfl e3) (zcons (zfvA rfl e4) (zcons (zfvA rfl e9) (zcons (zfvA rfl e10) (zcons (zfvI m0 rfl (wi1_9 _)) (zcons (zfvR m0 rfl (by simp [zmwX1_r, zgI_sI, zgI_sR, zgI_sQ, zgR_sI, zgR_sR, zgR_sQ, zgI_fl, zgR_fl]) e19) (zcons (zfvA rfl e151) (zcons (zfvI m0 rfl (wi1_12 _)) (rfl))))))))))))))) ?_
    refine zal2_cons (zceQ (k := 112) (o := o) (L := 6) (L' := 6) (tg := 8) (by decide) rfl (zlen_d (by decide)) e1 m1 (fun i => rfl)) ?_
    refine zal2_cons (zceI (k := 113) (o := o) (c := 1) (L := 8) (tg := 0) (by decide) (by decide) rfl (by decide) e2 m2 (fun i => wa113 _ i)) ?_
    refine zal2_cons (zceQ (k := 114) (o := o) (L := 4) (L' := 4) (tg := 7) (by decide) rfl (zlen_d (by decide)) e3 m3 (fun i => (congrArg (Option.map (B1 7)) (show zgQ (zmwX1_r o x1) 114 o i = zgQ (zsQ (zsQ (zsQ (zsQ (zsI (zsI (zsR (zsI (zsR (zsI (zsI zz0 1 0 o x1) 1 1 o (1 : Int32)) 1 10 o (some o)) 9 10 o (1 : Int32)) 9 12 o (some o)) 0 0 o x1) 0 9 o (1 : Int32)) 114 o ((0 : Int32)).toNatClampNeg (some (515 + 4 * o + 0))) 114 o ((1 : Int32)).toNatClampNeg (some (515 + 4 * o + 1))) 114 o ((2 : Int32)).toNatClampNeg (some (515 + 4 * o + 2))) 114 o ((3 : Int32)).toNatClampNeg (some (515 + 4 * o + 3))) 114 o i from rfl)).trans ((zqup (zqup (zqup (zqup (fun i => rfl) e11) e13) e15) e17) i))) ?_
    refine zal2_cons (zceR (k := 115) (o := o) (L := 4) (tg := 116) (by decide) (by decide) rfl e4 (fun i hi => by rw [if_pos hi]; exact congrArg some (zrow115 i hi))) ?_
    refine zal2_cons (zceL (k := 116) (o := (o * 4 + 0)) (tg := 0) (by decide) (by decide) rfl e5 m5 (wl116 _)) ?_
    refine zal2_cons (zceL (k := 116) (o := (o * 4 + 1)) (tg := 0) (by decide) (by decide) rfl e6 m6 (wl116 _)) ?_
    refine zal2_cons (zceL (k := 116) (o := (o * 4 + 2)) (tg := 0) (by decide) (by decide) rfl e7 m7 (wl116 _)) ?_
    refine zal2_cons (zceL (k := 116) (o := (o * 4 + 3)) (tg := 0) (by decide) (by decide) rfl e8 m8 (wl116 _)) ?_
    refine zal2_cons (zceI (k := 117) (o := o) (c := 1) (L := 4) (tg := 0) (by decide) (by decide) rfl (by decide) e9 m9 (fun i => wa117 _ i)) ?_
    refine zal2_cons (zceI (k := 118) (o := o) (c := 1) (L := 4) (tg := 0) (by decide) (by decide) rfl (by decide) e10 m10 (fun i => wa118 _ i)) ?_
    refine zal2_cons (zceO (k := 7) (o := (515 + 4 * o + 0)) (by decide) e11 (zcons (zfvI m11 rfl (wi7 _ _)) (zcons (zfvI m11 rfl (wi7 _ _)) (zcons (zfvI m11 rfl (wi7 _ _)) (zcons (zfvI m11 rfl (wi7 _ _)) (zcons (zfvI m11 rfl (wi7 _ _)) (zcons (zfvI m11 rfl (wi7 _ _)) (zcons (zfvI m11 rfl (wi7 _ _)) (zcons (zfvI m11 rfl (wi7 _ _)) (zcons (zfvA rfl e12) (zcons (zfvI m11 rfl (wi7 _ _)) (zcons (zfvI m11 rfl (wi7 _ _)) (zcons (zfvI m11 rfl (wi7 _ _)) (zcons (zfvI m11 rfl (wi7 _ _)) (zcons (zfvI m11 rfl (wi7 _ _)) (zcons (zfvN m11 rfl (wr7_14 _)) (zcons (zfvI m11 rfl (wi7 _ _)) (zcons (zfvI m11 rfl (wi7 _ _)) (zcons (zfvI m11 rfl (wi7 _ _)) (zcons (zfvI m11 rfl (wi7 _ _)) (zcons (zfvI m11 rfl (wi7 _ _)) (rfl)))))))))))))))))))))) ?_
    refine zal2_cons (zceI (k := 125) (o := (515 + 4 * o + 0)) (c := 0) (L := 1480) (tg := 0) (by decide) (by decide) rfl (by decide) e12 m12 (fun i => wa125 _ i)) ?_
    refine zal2_cons (zceO (k := 7) (o := (515 + 4 * o + 1)) (by decide) e13 (zcons (zfvI m13 rfl (wi7 _ _)) (zcons (zfvI m13 rfl (wi7 _ _)) (zcons (zfvI m13 rfl (wi7 _ _)) (zcons (zfvI m13 rfl (wi7 _ _)) (zcons (zfvI m13 rfl (wi7 _ _)) (zcons (zfvI m13 rfl (wi7 _ _)) (zcons (zfvI m13 rfl (wi7 _ _)) (zcons (zfvI m13 rfl (wi7 _ _)) (zcons (zfvA rfl e14) (zcons (zfvI m13 rfl (wi7 _ _)) (zcons (zfvI m13 rfl (wi7 _ _)) (zcons (zfvI m13 rfl (wi7 _ _)) (zcons (zfvI m13 rfl (wi7 _ _)) (zcons (zfvI m13 rfl (wi7 _ _)) (zcons (zfvN m13 rfl (wr7_14 _)) (zcons (zfvI m13 rfl (wi7 _ _)) (zcons (zfvI m13 rfl (wi7 _ _)) (zcons (zfvI m13 rfl (wi7 _ _)) (zcons (zfvI m13 rfl (wi7 _ _)) (zcons (zfvI m13 rfl (wi7 _ _)) (rfl)))))))))))))))))))))) ?_
    refine zal2_cons (zceI (k := 125) (o := (515 + 4 * o + 1)) (c := 0) (L := 1480) (tg := 0) (by decide) (by decide) rfl (by decide) e14 m14 (fun i => wa125 _ i)) ?_
    refine zal2_cons (zceO (k := 7) (o := (515 + 4 * o + 2)) (by decide) e15 (zcons (zfvI m15 rfl (wi7 _ _)) (zcons (zfvI m15 rfl (wi7 _ _)) (zcons (zfvI m15 rfl (wi7 _ _)) (zcons (zfvI m15 rfl (wi7 _ _)) (zcons (zfvI m15 rfl (wi7 _ _)) (zcons (zfvI m15 rfl (wi7 _ _)) (zcons (zfvI m15 rfl (wi7 _ _)) (zcons (zfvI m15 rfl (wi7 _ _)) (zcons (zfvA rfl e16) (zcons (zfvI m15 rfl (wi7 _ _)) (zcons (zfvI m15 rfl (wi7 _ _)) (zcons (zfvI m15 rfl (wi7 _ _)) (zcons (zfvI m15 rfl (wi7 _ _)) (zcons (zfvI m15 rfl (wi7 _ _)) (zcons (zfvN m15 rfl (wr7_14 _)) (zcons (zfvI m15 rfl (wi7 _ _)) (zcons (zfvI m15 rfl (wi7 _ _)) (zcons (zfvI m15 rfl (wi7 _ _)) (zcons (zfvI m15 rfl (wi7 _ _)) (zcons (zfvI m15 rfl (wi7 _ _)) (rfl)))))))))))))))))))))) ?_
    refine zal2_cons (zceI (k := 125) (o := (515 + 4 * o + 2)) (c := 0) (L := 1480) (tg := 0) (by decide) (by decide) rfl (by decide) e16 m16 (fun i => wa125 _ i)) ?_
    refine zal2_cons (zceO (k := 7) (o := (515 + 4 * o + 3)) (by decide) e17 (zcons (zfvI m17 rfl (wi7 _ _)) (zcons (zfvI m17 rfl (wi7 _ _)) (zcons (zfvI m17 rfl (wi7 _ _)) (zcons (zfvI m17 rfl (wi7 _ _)) (zcons (zfvI m17 rfl (wi7 _ _)) (zcons (zfvI m17 rfl (wi7 _ _)) (zcons (zfvI m17 rfl (wi7 _ _)) (zcons (zfvI m17 rfl (wi7 _ _)) (zcons (zfvA rfl e18) (zcons (zfvI m17 rfl (wi7 _ _)) (zcons (zfvI m17 rfl (wi7 _ _)) (zcons (zfvI m17 rfl (wi7 _ _)) (zcons (zfvI m17 rfl (wi7 _ _)) (zcons (zfvI m17 rfl (wi7 _ _)) (zcons (zfvN m17 rfl (wr7_14 _)) (zcons (zfvI m17 rfl (wi7 _ _)) (zcons (zfvI m17 rfl (wi7 _ _)) (zcons (zfvI m17 rfl (wi7 _ _)) (zcons (zfvI m17 rfl (wi7 _ _)) (zcons (zfvI m17 rfl (wi7 _ _)) (rfl)))))))))))))))))))))) ?_
    refine zal2_cons (zceI (k := 125) (o := (515 + 4 * o + 3)) (c := 0) (L := 1480) (tg := 0) (by decide) (by decide) rfl (by decide) e18 m18 (fun i => wa125 _ i)) ?_
    refine zal2_cons (zceO (k := 9) (o := o) (by decide) e19 (zcons (zfvA rfl e20) (zcons (zfvI m19 rfl (wi9_1 _)) (zcons (zfvA rfl e21) (zcons (zfvA rfl e22) (zcons (zfvA rfl e23) (zcons (zfvI m19 rfl (wi9_5 _)) (zcons (zfvA rfl e120) (zcons (zfvA rfl e121) (zcons (zfvA rfl e122) (zcons (zfvI m19 rfl (wi9_9 _)) (zcons (zfvI m19 rfl (by simp [zmwX1_r, zgI_sI, zgI_sR, zgI_sQ, zgR_sI, zgR_sR, zgR_sQ, zgI_fl, zgR_fl])) (zcons (zfvI m19 rfl (wi9_11 _)) (zcons (zfvR m19 rfl (by simp [zmwX1_r, zgI_sI, zgI_sR, zgI_sQ, zgR_sI, zgR_sR, zgR_sQ, zgI_fl, zgR_fl]) e123) (rfl))))))))))))))) ?_
    refine zal2_cons (zceI (k := 131) (o := o) (c := 1) (L := 16) (tg := 0) (by decide) (by decide) rfl (by decide) e20 m20 (fun i => wa131 _ i)) ?_
    refine zal2_cons (zceI (k := 132) (o := o) (c := 1) (L := 96) (tg := 0) (by decide) (by decide) rfl (by decide) e21 m21 (fun i => wa132 _ i)) ?_
    refine zal2_cons (zceI (k := 133) (o := o) (c := 3) (L := 96) (tg := 0) (by decide) (by decide) rfl (by decide) e22 m22 (fun i => wa133 _ i)) ?_
    refine zal2_cons (zceR (k := 134) (o := o) (L := 96) (tg := 135) (by decide) (by decide) rfl e23 (fun i hi => by rw [if_pos hi]; exact congrArg some (zrow134 i hi))) ?_
    refine zal2_cons (zceI (k := 135) (o := (o * 96 + 0)) (c := 1) (L := 16) (tg := 0) (by decide) (by decide) rfl (by decide) e24 m24 (fun i => wa135 _ i)) ?_
    refine zal2_cons (zceI (k := 135) (o := (o * 96 + 1)) (c := 1) (L := 16) (tg := 0) (by decide) (by decide) rfl (by decide) e25 m25 (fun i => wa135 _ i)) ?_
    refine zal2_cons (zceI (k := 135) (o := (o * 96 + 2)) (c := 1) (L := 16) (tg := 0) (by decide) (by decide) rfl (by decide) e26 m26 (fun i => wa135 _ i)) ?_
    refine zal2_cons (zceI (k := 135) (o := (o * 96 + 3)) (c := 1) (L := 16) (tg := 0) (by decide) (by decide) rfl (by decide) e27 m27 (fun i => wa135 _ i)) ?_
    refine zal2_cons (zceI (k := 135) (o := (o * 96 + 4)) (c := 1) (L := 16) (tg := 0) (by decide) (by decide) rfl (by decide) e28 m28 (fun i => wa135 _ i)) ?_
    refine zal2_cons (zceI (k := 135) (o := (o * 96 + 5)) (c := 1) (L := 16) (tg := 0) (by decide) (by decide) rfl (by decide) e29 m29 (fun i => wa135 _ i)) ?_
    refine zal2_cons (zceI (k := 135) (o := (o * 96 + 6)) (c := 1) (L := 16) (tg := 0) (by decide) (by decide) rfl (by decide) e30 m30 (fun i => wa135 _ i)) ?_
    refine zal2_cons (zceI (k := 135) (o := (o * 96 + 7)) (c := 1) (L := 16) (tg := 0) (by decide) (by decide) rfl (by decide) e31 m31 (fun i => wa135 _ i)) ?_
    refine zal2_cons (zceI (k := 135) (o := (o * 96 + 8)) (c := 1) (L := 16) (tg := 0) (by decide) (by decide) rfl (by decide) e32 m32 (fun i => wa135 _ i)) ?_
    refine zal2_cons (zceI (k := 135) (o := (o * 96 + 9)) (c := 1) (L := 16) (tg := 0) (by decide) (by decide) rfl (by decide) e33 m33 (fun i => wa135 _ i)) ?_
    refine zal2_cons (zceI (k := 135) (o := (o * 96 + 10)) (c := 1) (L := 16) (tg := 0) (by decide) (by decide) rfl (by decide) e34 m34 (fun i => wa135 _ i)) ?_
    refine zal2_cons (zceI (k := 135) (o := (o * 96 + 11)) (c := 1) (L := 16) (tg := 0) (by decide) (by decide) rfl (by decide) e35 m35 (fun i => wa135 _ i)) ?_
    refine zal2_cons (zceI (k := 135) (o := (o * 96 + 12)) (c := 1) (L := 16) (tg := 0) (by decide) (by decide) rfl (by decide) e36 m36 (fun i => wa135 _ i)) ?_
    refine zal2_cons (zceI (k := 135) (o := (o * 96 + 13)) (c := 1) (L := 16) (tg := 0) (by decide) (by decide) rfl (by decide) e37 m37 (fun i => wa135 _ i)) ?_
    refine zal2_cons (zceI (k := 135) (o := (o * 96 + 14)) (c := 1) (L := 16) (tg := 0) (by decide) (by decide) rfl (by decide) e38 m38 (fun i => wa135 _ i)) ?_
    refine zal2_cons (zceI (k := 135) (o := (o * 96 + 15)) (c := 1) (L := 16) (tg := 0) (by decide) (by decide) rfl (by decide) e39 m39 (fun i => wa135 _ i)) ?_
    refine zal2_cons (zceI (k := 135) (o := (o * 96 + 16)) (c := 1) (L := 16) (tg := 0) (by decide) (by decide) rfl (by decide) e40 m40 (fun i => wa135 _ i)) ?_
    refine zal2_cons (zceI (k := 135) (o := (o * 96 + 17)) (c := 1) (L := 16) (tg := 0) (by decide) (by decide) rfl (by decide) e41 m41 (fun i => wa135 _ i)) ?_
    refine zal2_cons (zceI (k := 135) (o := (o * 96 + 18)) (c := 1) (L := 16) (tg := 0) (by decide) (by decide) rfl (by decide) e42 m42 (fun i => wa135 _ i)) ?_
    refine zal2_cons (zceI (k := 135) (o := (o * 96 + 19)) (c := 1) (L := 16) (tg := 0) (by decide) (by decide) rfl (by decide) e43 m43 (fun i => wa135 _ i)) ?_
    refine zal2_cons (zceI (k := 135) (o := (o * 96 + 20)) (c := 1) (L := 16) (tg := 0) (by decide) (by decide) rfl (by decide) e44 m44 (fun i => wa135 _ i)) ?_
    refine zal2_cons (zceI (k := 135) (o := (o * 96 + 21)) (c := 1) (L := 16) (tg := 0) (by decide) (by decide) rfl (by decide) e45 m45 (fun i => wa135 _ i)) ?_
    refine zal2_cons (zceI (k := 135) (o := (o * 96 + 22)) (c := 1) (L := 16) (tg := 0) (by decide) (by decide) rfl (by decide) e46 m46 (fun i => wa135 _ i)) ?_
    refine zal2_cons (zceI (k := 135) (o := (o * 96 + 23)) (c := 1) (L := 16) (tg := 0) (by decide) (by decide) rfl (by decide) e47 m47 (fun i => wa135 _ i)) ?_
    refine zal2_cons (zceI (k := 135) (o := (o * 96 + 24)) (c := 1) (L := 16) (tg := 0) (by decide) (by decide) rfl (by decide) e48 m48 (fun i => wa135 _ i)) ?_
    refine zal2_cons (zceI (k := 135) (o := (o * 96 + 25)) (c := 1) (L := 16) (tg := 0) (by decide) (by decide) rfl (by decide) e49 m49 (fun i => wa135 _ i)) ?_
    refine zal2_cons (zceI (k := 135) (o := (o * 96 + 26)) (c := 1) (L := 16) (tg := 0) (by decide) (by decide) rfl (by decide) e50 m50 (fun i => wa135 _ i)) ?_
    refine zal2_cons (zceI (k := 135) (o := (o * 96 + 27)) (c := 1) (L := 16) (tg := 0) (by decide) (by decide) rfl (by decide) e51 m51 (fun i => wa135 _ i)) ?_
    refine zal2_cons (zceI (k := 135) (o := (o * 96 + 28)) (c := 1) (L := 16) (tg := 0) (by decide) (by decide) rfl (by decide) e52 m52 (fun i => wa135 _ i)) ?_
    refine zal2_cons (zceI (k := 135) (o := (o * 96 + 29)) (c := 1) (L := 16) (tg := 0) (by decide) (by decide) rfl (by decide) e53 m53 (fun i => wa135 _ i)) ?_
    refine zal2_cons (zceI (k := 135) (o := (o * 96 + 30)) (c := 1) (L := 16) (tg := 0) (by decide) (by decide) rfl (by decide) e54 m54 (fun i => wa135 _ i)) ?_
    refine zal2_cons (zceI (k := 135) (o := (o * 96 + 31)) (c := 1) (L := 16) (tg := 0) (by decide) (by decide) rfl (by decide) e55 m55 (fun i => wa135 _ i)) ?_
    refine zal2_cons (zceI (k := 135) (o := (o * 96 + 32)) (c := 1) (L := 16) (tg := 0) (by decide) (by decide) rfl (by decide) e56 m56 (fun i => wa135 _ i)) ?_
    refine zal2_cons (zceI (k := 135) (o := (o * 96 + 33)) (c := 1) (L := 16) (tg := 0) (by decide) (by decide) rfl (by decide) e57 m57 (fun i => wa135 _ i)) ?_
    refine zal2_cons (zceI (k := 135) (o := (o * 96 + 34)) (c := 1) (L := 16) (tg := 0) (by decide) (by decide) rfl (by decide) e58 m58 (fun i => wa135 _ i)) ?_
    refine zal2_cons (zceI (k := 135) (o := (o * 96 + 35)) (c := 1) (L := 16) (tg := 0) (by decide) (by decide) rfl (by decide) e59 m59 (fun i => wa135 _ i)) ?_
    refine zal2_cons (zceI (k := 135) (o := (o * 96 + 36)) (c := 1) (L := 16) (tg := 0) (by decide) (by decide) rfl (by decide) e60 m60 (fun i => wa135 _ i)) ?_
    refine zal2_cons (zceI (k := 135) (o := (o * 96 + 37)) (c := 1) (L := 16) (tg := 0) (by decide) (by decide) rfl (by decide) e61 m61 (fun i => wa135 _ i)) ?_
    refine zal2_cons (zceI (k := 135) (o := (o * 96 + 38)) (c := 1) (L := 16) (tg := 0) (by decide) (by decide) rfl (by decide) e62 m62 (fun i => wa135 _ i)) ?_
    refine zal2_cons (zceI (k := 135) (o := (o * 96 + 39)) (c := 1) (L := 16) (tg := 0) (by decide) (by decide) rfl (by decide) e63 m63 (fun i => wa135 _ i)) ?_
    refine zal2_cons (zceI (k := 135) (o := (o * 96 + 40)) (c := 1) (L := 16) (tg := 0) (by decide) (by decide) rfl (by decide) e64 m64 (fun i => wa135 _ i)) ?_
    refine zal2_cons (zceI (k := 135) (o := (o * 96 + 41)) (c := 1) (L := 16) (tg := 0) (by decide) (by decide) rfl (by decide) e65 m65 (fun i => wa135 _ i)) ?_
    refine zal2_cons (zceI (k := 135) (o := (o * 96 + 42)) (c := 1) (L := 16) (tg := 0) (by decide) (by decide) rfl (by decide) e66 m66 (fun i => wa135 _ i)) ?_
    refine zal2_cons (zceI (k := 135) (o := (o * 96 + 43)) (c := 1) (L := 16) (tg := 0) (by decide) (by decide) rfl (by decide) e67 m67 (fun i => wa135 _ i)) ?_
    refine zal2_cons (zceI (k := 135) (o := (o * 96 + 44)) (c := 1) (L := 16) (tg := 0) (by decide) (by decide) rfl (by decide) e68 m68 (fun i => wa135 _ i)) ?_
    refine zal2_cons (zceI (k := 135) (o := (o * 96 + 45)) (c := 1) (L := 16) (tg := 0) (by decide) (by decide) rfl (by decide) e69 m69 (fun i => wa135 _ i)) ?_
    refine zal2_cons (zceI (k := 135) (o := (o * 96 + 46)) (c := 1) (L := 16) (tg := 0) (by decide) (by decide) rfl (by decide) e70 m70 (fun i => wa135 _ i)) ?_
    refine zal2_cons (zceI (k := 135) (o := (o * 96 + 47)) (c := 1) (L := 16) (tg := 0) (by decide) (by decide) rfl (by decide) e71 m71 (fun i => wa135 _ i)) ?_
    refine zal2_cons (zceI (k := 135) (o := (o * 96 + 48)) (c := 1) (L := 16) (tg := 0) (by decide) (by decide) rfl (by decide) e72 m72 (fun i => wa135 _ i)) ?_
    refine zal2_cons (zceI (k := 135) (o := (o * 96 + 49)) (c := 1) (L := 16) (tg := 0) (by decide) (by decide) rfl (by decide) e73 m73 (fun i => wa135 _ i)) ?_
    refine zal2_cons (zceI (k := 135) (o := (o * 96 + 50)) (c := 1) (L := 16) (tg := 0) (by decide) (by decide) rfl (by decide) e74 m74 (fun i => wa135 _ i)) ?_
    refine zal2_cons (zceI (k := 135) (o := (o * 96 + 51)) (c := 1) (L := 16) (tg := 0) (by decide) (by decide) rfl (by decide) e75 m75 (fun i => wa135 _ i)) ?_
    refine zal2_cons (zceI (k := 135) (o := (o * 96 + 52)) (c := 1) (L := 16) (tg := 0) (by decide) (by decide) rfl (by decide) e76 m76 (fun i => wa135 _ i)) ?_
    refine zal2_cons (zceI (k := 135) (o := (o * 96 + 53)) (c := 1) (L := 16) (tg := 0) (by decide) (by decide) rfl (by decide) e77 m77 (fun i => wa135 _ i)) ?_
    refine zal2_cons (zceI (k := 135) (o := (o * 96 + 54)) (c := 1) (L := 16) (tg := 0) (by decide) (by decide) rfl (by decide) e78 m78 (fun i => wa135 _ i)) ?_
    refine zal2_cons (zceI (k := 135) (o := (o * 96 + 55)) (c := 1) (L := 16) (tg := 0) (by decide) (by decide) rfl (by decide) e79 m79 (fun i => wa135 _ i)) ?_
    refine zal2_cons (zceI (k := 135) (o := (o * 96 + 56)) (c := 1) (L := 16) (tg := 0) (by decide) (by decide) rfl (by decide) e80 m80 (fun i => wa135 _ i)) ?_
    refine zal2_cons (zceI (k := 135) (o := (o * 96 + 57)) (c := 1) (L := 16) (tg := 0) (by decide) (by decide) rfl (by decide) e81 m81 (fun i => wa135 _ i)) ?_
    refine zal2_cons (zceI (k := 135) (o := (o * 96 + 58)) (c := 1) (L := 16) (tg := 0) (by decide) (by decide) rfl (by decide) e82 m82 (fun i => wa135 _ i)) ?_
    refine zal2_cons (zceI (k := 135) (o := (o * 96 + 59)) (c := 1) (L := 16) (tg := 0) (by decide) (by decide) rfl (by decide) e83 m83 (fun i => wa135 _ i)) ?_
    refine zal2_cons (zceI (k := 135) (o := (o * 96 + 60)) (c := 1) (L := 16) (tg := 0) (by decide) (by decide) rfl (by decide) e84 m84 (fun i => wa135 _ i)) ?_
    refine zal2_cons (zceI (k := 135) (o := (o * 96 + 61)) (c := 1) (L := 16) (tg := 0) (by decide) (by decide) rfl (by decide) e85 m85 (fun i => wa135 _ i)) ?_
    refine zal2_cons (zceI (k := 135) (o := (o * 96 + 62)) (c := 1) (L := 16) (tg := 0) (by decide) (by decide) rfl (by decide) e86 m86 (fun i => wa135 _ i)) ?_
    refine zal2_cons (zceI (k := 135) (o := (o * 96 + 63)) (c := 1) (L := 16) (tg := 0) (by decide) (by decide) rfl (by decide) e87 m87 (fun i => wa135 _ i)) ?_
    refine zal2_cons (zceI (k := 135) (o := (o * 96 + 64)) (c := 1) (L := 16) (tg := 0) (by decide) (by decide) rfl (by decide) e88 m88 (fun i => wa135 _ i)) ?_
    refine zal2_cons (zceI (k := 135) (o := (o * 96 + 65)) (c := 1) (L := 16) (tg := 0) (by decide) (by decide) rfl (by decide) e89 m89 (fun i => wa135 _ i)) ?_
    refine zal2_cons (zceI (k := 135) (o := (o * 96 + 66)) (c := 1) (L := 16) (tg := 0) (by decide) (by decide) rfl (by decide) e90 m90 (fun i => wa135 _ i)) ?_
    refine zal2_cons (zceI (k := 135) (o := (o * 96 + 67)) (c := 1) (L := 16) (tg := 0) (by decide) (by decide) rfl (by decide) e91 m91 (fun i => wa135 _ i)) ?_
    refine zal2_cons (zceI (k := 135) (o := (o * 96 + 68)) (c := 1) (L := 16) (tg := 0) (by decide) (by decide) rfl (by decide) e92 m92 (fun i => wa135 _ i)) ?_
    refine zal2_cons (zceI (k := 135) (o := (o * 96 + 69)) (c := 1) (L := 16) (tg := 0) (by decide) (by decide) rfl (by decide) e93 m93 (fun i => wa135 _ i)) ?_
    refine zal2_cons (zceI (k := 135) (o := (o * 96 + 70)) (c := 1) (L := 16) (tg := 0) (by decide) (by decide) rfl (by decide) e94 m94 (fun i => wa135 _ i)) ?_
    refine zal2_cons (zceI (k := 135) (o := (o * 96 + 71)) (c := 1) (L := 16) (tg := 0) (by decide) (by decide) rfl (by decide) e95 m95 (fun i => wa135 _ i)) ?_
    refine zal2_cons (zceI (k := 135) (o := (o * 96 + 72)) (c := 1) (L := 16) (tg := 0) (by decide) (by decide) rfl (by decide) e96 m96 (fun i => wa135 _ i)) ?_
    refine zal2_cons (zceI (k := 135) (o := (o * 96 + 73)) (c := 1) (L := 16) (tg := 0) (by decide) (by decide) rfl (by decide) e97 m97 (fun i => wa135 _ i)) ?_
    refine zal2_cons (zceI (k := 135) (o := (o * 96 + 74)) (c := 1) (L := 16) (tg := 0) (by decide) (by decide) rfl (by decide) e98 m98 (fun i => wa135 _ i)) ?_
    refine zal2_cons (zceI (k := 135) (o := (o * 96 + 75)) (c := 1) (L := 16) (tg := 0) (by decide) (by decide) rfl (by decide) e99 m99 (fun i => wa135 _ i)) ?_
    refine zal2_cons (zceI (k := 135) (o := (o * 96 + 76)) (c := 1) (L := 16) (tg := 0) (by decide) (by decide) rfl (by decide) e100 m100 (fun i => wa135 _ i)) ?_
    refine zal2_cons (zceI (k := 135) (o := (o * 96 + 77)) (c := 1) (L := 16) (tg := 0) (by decide) (by decide) rfl (by decide) e101 m101 (fun i => wa135 _ i)) ?_
    refine zal2_cons (zceI (k := 135) (o := (o * 96 + 78)) (c := 1) (L := 16) (tg := 0) (by decide) (by decide) rfl (by decide) e102 m102 (fun i => wa135 _ i)) ?_
    refine zal2_cons (zceI (k := 135) (o := (o * 96 + 79)) (c := 1) (L := 16) (tg := 0) (by decide) (by decide) rfl (by decide) e103 m103 (fun i => wa135 _ i)) ?_
    refine zal2_cons (zceI (k := 135) (o := (o * 96 + 80)) (c := 1) (L := 16) (tg := 0) (by decide) (by decide) rfl (by decide) e104 m104 (fun i => wa135 _ i)) ?_
    refine zal2_cons (zceI (k := 135) (o := (o * 96 + 81)) (c := 1) (L := 16) (tg := 0) (by decide) (by decide) rfl (by decide) e105 m105 (fun i => wa135 _ i)) ?_
    refine zal2_cons (zceI (k := 135) (o := (o * 96 + 82)) (c := 1) (L := 16) (tg := 0) (by decide) (by decide) rfl (by decide) e106 m106 (fun i => wa135 _ i)) ?_
    refine zal2_cons (zceI (k := 135) (o := (o * 96 + 83)) (c := 1) (L := 16) (tg := 0) (by decide) (by decide) rfl (by decide) e107 m107 (fun i => wa135 _ i)) ?_
    refine zal2_cons (zceI (k := 135) (o := (o * 96 + 84)) (c := 1) (L := 16) (tg := 0) (by decide) (by decide) rfl (by decide) e108 m108 (fun i => wa135 _ i)) ?_
    refine zal2_cons (zceI (k := 135) (o := (o * 96 + 85)) (c := 1) (L := 16) (tg := 0) (by decide) (by decide) rfl (by decide) e109 m109 (fun i => wa135 _ i)) ?_
    refine zal2_cons (zceI (k := 135) (o := (o * 96 + 86)) (c := 1) (L := 16) (tg := 0) (by decide) (by decide) rfl (by decide) e110 m110 (fun i => wa135 _ i)) ?_
    refine zal2_cons (zceI (k := 135) (o := (o * 96 + 87)) (c := 1) (L := 16) (tg := 0) (by decide) (by decide) rfl (by decide) e111 m111 (fun i => wa135 _ i)) ?_
    refine zal2_cons (zceI (k := 135) (o := (o * 96 + 88)) (c := 1) (L := 16) (tg := 0) (by decide) (by decide) rfl (by decide) e112 m112 (fun i => wa135 _ i)) ?_
    refine zal2_cons (zceI (k := 135) (o := (o * 96 + 89)) (c := 1) (L := 16) (tg := 0) (by decide) (by decide) rfl (by decide) e113 m113 (fun i => wa135 _ i)) ?_
    refine zal2_cons (zceI (k := 135) (o := (o * 96 + 90)) (c := 1) (L := 16) (tg := 0) (by decide) (by decide) rfl (by decide) e114 m114 (fun i => wa135 _ i)) ?_
    refine zal2_cons (zceI (k := 135) (o := (o * 96 + 91)) (c := 1) (L := 16) (tg := 0) (by decide) (by decide) rfl (by decide) e115 m115 (fun i => wa135 _ i)) ?_
    refine zal2_cons (zceI (k := 135) (o := (o * 96 + 92)) (c := 1) (L := 16) (tg := 0) (by decide) (by decide) rfl (by decide) e116 m116 (fun i => wa135 _ i)) ?_
    refine zal2_cons (zceI (k := 135) (o := (o * 96 + 93)) (c := 1) (L := 16) (tg := 0) (by decide) (by decide) rfl (by decide) e117 m117 (fun i => wa135 _ i)) ?_
    refine zal2_cons (zceI (k := 135) (o := (o * 96 + 94)) (c := 1) (L := 16) (tg := 0) (by decide) (by decide) rfl (by decide) e118 m118 (fun i => wa135 _ i)) ?_
    refine zal2_cons (zceI (k := 135) (o := (o * 96 + 95)) (c := 1) (L := 16) (tg := 0) (by decide) (by decide) rfl (by decide) e119 m119 (fun i => wa135 _ i)) ?_
    refine zal2_cons (zceI (k := 136) (o := o) (c := 1) (L := 64) (tg := 0) (by decide) (by decide) rfl (by decide) e120 m120 (fun i => wa136 _ i)) ?_
    refine zal2_cons (zceI (k := 137) (o := o) (c := 1) (L := 64) (tg := 0) (by decide) (by decide) rfl (by decide) e121 m121 (fun i => wa137 _ i)) ?_
    refine zal2_cons (zceI (k := 138) (o := o) (c := 1) (L := 64) (tg := 0) (by decide) (by decide) rfl (by decide) e122 m122 (fun i => wa138 _ i)) ?_
    refine zal2_cons (zceO (k := 0) (o := o) (by decide) e123 (zcons (zfvI m123 rfl (by simp [zmwX1_r, zgI_sI, zgI_sR, zgI_sQ, zgR_sI, zgR_sR, zgR_sQ, zgI_fl, zgR_fl])) (zcons (zfvA rfl e124) (zcons (zfvA rfl e125) (zcons (zfvA rfl e126) (zcons (zfvA rfl e127) (zcons (zfvA rfl e144) (zcons (zfvI m123 rfl (wi0_6 _)) (zcons (zfvI m123 rfl (wi0_7 _)) (zcons (zfvI m123 rfl (wi0_8 _)) (zcons (zfvI m123 rfl (by simp [zmwX1_r, zgI_sI, zgI_sR, zgI_sQ, zgR_sI, zgR_sR, zgR_sQ, zgI_fl, zgR_fl])) (zcons (zfvA rfl e145) (zcons (zfvA rfl e146) (zcons (zfvA rfl e147) (zcons (zfvA rfl e148) (zcons (zfvA rfl e149) (zcons (zfvA rfl e150) (rfl)))))))))))))))))) ?_
    refine zal2_cons (zceI (k := 100) (o := o) (c := 1) (L := 16) (tg := 0) (by decide) (by decide) rfl (by decide) e124 m124 (fun i => wa100 _ i)) ?_
    refine zal2_cons (zceI (k := 101) (o := o) (c := 1) (L := 16) (tg := 0) (by decide) (by decide) rfl (by decide) e125 m125 (fun i => wa101 _ i)) ?_
    refine zal2_cons (zceI (k := 102) (o := o) (c := 1) (L := 16) (tg := 0) (by decide) (by decide) rfl (by decide) e126 m126 (fun i => wa102 _ i)) ?_
    refine zal2_cons (zceR (k := 103) (o := o) (L := 16) (tg := 104) (by decide) (by decide) rfl e127 (fun i hi => by rw [if_pos hi]; exact congrArg some (zrow103 i hi))) ?_
    refine zal2_cons (zceI (k := 104) (o := (o * 16 + 0)) (c := 1) (L := 24) (tg := 0) (by decide) (by decide) rfl (by decide) e128 m128 (fun i => wa104 _ i)) ?_
    refine zal2_cons (zceI (k := 104) (o := (o * 16 + 1)) (c := 1) (L := 24) (tg := 0) (by decide) (by decide) rfl (by decide) e129 m129 (fun i => wa104 _ i)) ?_
    refine zal2_cons (zceI (k := 104) (o := (o * 16 + 2)) (c := 1) (L := 24) (tg := 0) (by decide) (by decide) rfl (by decide) e130 m130 (fun i => wa104 _ i)) ?_
    refine zal2_cons (zceI (k := 104) (o := (o * 16 + 3)) (c := 1) (L := 24) (tg := 0) (by decide) (by decide) rfl (by decide) e131 m131 (fun i => wa104 _ i)) ?_
    refine zal2_cons (zceI (k := 104) (o := (o * 16 + 4)) (c := 1) (L := 24) (tg := 0) (by decide) (by decide) rfl (by decide) e132 m132 (fun i => wa104 _ i)) ?_
    refine zal2_cons (zceI (k := 104) (o := (o * 16 + 5)) (c := 1) (L := 24) (tg := 0) (by decide) (by decide) rfl (by decide) e133 m133 (fun i => wa104 _ i)) ?_
    refine zal2_cons (zceI (k := 104) (o := (o * 16 + 6)) (c := 1) (L := 24) (tg := 0) (by decide) (by decide) rfl (by decide) e134 m134 (fun i => wa104 _ i)) ?_
    refine zal2_cons (zceI (k := 104) (o := (o * 16 + 7)) (c := 1) (L := 24) (tg := 0) (by decide) (by decide) rfl (by decide) e135 m135 (fun i => wa104 _ i)) ?_
    refine zal2_cons (zceI (k := 104) (o := (o * 16 + 8)) (c := 1) (L := 24) (tg := 0) (by decide) (by decide) rfl (by decide) e136 m136 (fun i => wa104 _ i)) ?_
    refine zal2_cons (zceI (k := 104) (o := (o * 16 + 9)) (c := 1) (L := 24) (tg := 0) (by decide) (by decide) rfl (by decide) e137 m137 (fun i => wa104 _ i)) ?_
    refine zal2_cons (zceI (k := 104) (o := (o * 16 + 10)) (c := 1) (L := 24) (tg := 0) (by decide) (by decide) rfl (by decide) e138 m138 (fun i => wa104 _ i)) ?_
    refine zal2_cons (zceI (k := 104) (o := (o * 16 + 11)) (c := 1) (L := 24) (tg := 0) (by decide) (by decide) rfl (by decide) e139 m139 (fun i => wa104 _ i)) ?_
    refine zal2_cons (zceI (k := 104) (o := (o * 16 + 12)) (c := 1) (L := 24) (tg := 0) (by decide) (by decide) rfl (by decide) e140 m140 (fun i => wa104 _ i)) ?_
    refine zal2_cons (zceI (k := 104) (o := (o * 16 + 13)) (c := 1) (L := 24) (tg := 0) (by decide) (by decide) rfl (by decide) e141 m141 (fun i => wa104 _ i)) ?_
    refine zal2_cons (zceI (k := 104) (o := (o * 16 + 14)) (c := 1) (L := 24) (tg := 0) (by decide) (by decide) rfl (by decide) e142 m142 (fun i => wa104 _ i)) ?_
    refine zal2_cons (zceI (k := 104) (o := (o * 16 + 15)) (c := 1) (L := 24) (tg := 0) (by decide) (by decide) rfl (by decide) e143 m143 (fun i => wa104 _ i)) ?_
    refine zal2_cons (zceI (k := 105) (o := o) (c := 1) (L := 24) (tg := 0) (by decide) (by decide) rfl (by decide) e144 m144 (fun i => wa105 _ i)) ?_
    refine zal2_cons (zceI (k := 106) (o := o) (c := 1) (L := 24) (tg := 0) (by decide) (by decide) rfl (by decide) e145 m145 (fun i => by simp [zmwX1_r, zgA_fl])) ?_
    refine zal2_cons (zceI (k := 107) (o := o) (c := 1) (L := 24) (tg := 0) (by decide) (by decide) rfl (by decide) e146 m146 (fun i => by simp [zmwX1_r, zgA_fl])) ?_
    refine zal2_cons (zceI (k := 108) (o := o) (c := 1) (L := 24) (tg := 0) (by decide) (by decide) rfl (by decide) e147 m147 (fun i => by simp [zmwX1_r, zgA_fl])) ?_
    refine zal2_cons (zceI (k := 109) (o := o) (c := 1) (L := 16) (tg := 0) (by decide) (by decide) rfl (by decide) e148 m148 (fun i => wa109 _ i)) ?_
    refine zal2_cons (zceI (k := 110) (o := o) (c := 3) (L := 16) (tg := 0) (by decide) (by decide) rfl (by decide) e149 m149 (fun i => wa110 _ i)) ?_
    refine zal2_cons (zceI (k := 111) (o := o) (c := 1) (L := 16) (tg := 0) (by decide) (by decide) rfl (by decide) e150 m150 (fun i => wa111 _ i)) ?_
    refine zal2_cons (zceQ (k := 119) (o := o) (L := 0) (L' := 0) (tg := 2) (by decide) rfl (by unfold zlen; rw [if_pos rfl, zgI_mg, if_pos m0]; simp [zmwX1_r, zgI_sI, zgI_sR, zgI_sQ, zgR_sI, zgR_sR, zgR_sQ, zgI_fl, zgR_fl]) e151 m151 (fun i => rfl)) ?_
    exact zal2_nil)
  exact ⟨B1, hB, e0, s1, s2, zI9_app h9 (fun o1 h => by simp [znmX1_r] at h ⊢; omega), s3⟩
