def Lf (z0 : Nat) (z1 : Nat) (z2 : Nat) (z3 : Nat) (z4 : Nat) (z5 : Nat) (z6 : Nat) (z7 : Nat) (z8 : Nat) (z9 : Nat) (z10 : Nat) (z11 : Nat) (z12 : Nat) (z13 : Nat) (z14 : Nat) (z15 : Nat) (z16 : Nat) (z17 : Nat) (z18 : Nat) (z19 : Nat) (z20 : Nat) (z21 : Nat) (z22 : Nat) (z23 : Nat) (z24 : Nat) (z25 : Nat) (z26 : Nat) (z27 : Nat) (z28 : Nat) (z29 : Nat) (z30 : Nat) (z31 : Nat) (z32 : Nat) (z33 : Nat) (z34 : Nat) (z35 : Nat) (z36 : Nat) (z40 : Nat) (z45 : Nat) (z46 : Nat) (z47 : Nat) (z48 : Nat) (z49 : Nat) (z50 : Nat) (z51 : Nat) (z52 : Nat) (z53 : Nat) (z54 : Nat) (z55 : Nat) (z56 : Nat) (z57 : Nat) (z63 : Nat) (z64 : Nat) (z65 : Nat) (z66 : Nat) (z67 : Nat) (z69 : Nat) (z70 : Nat) (z73 : Nat) (z74 : Nat) (z75 : Nat) : Nat → Nat
  | 0 => z0
  | 1 => z1
  | 2 => z2
  | 3 => z3
  | 4 => z4
  | 5 => z5
  | 6 => z6
  | 7 => z7
  | 8 => z8
  | 9 => z9
  | 10 => z10
  | 11 => z11
  | 12 => z12
  | 13 => z13
  | 14 => z14
  | 15 => z15
  | 16 => z16
  | 17 => z17
  | 18 => z18
  | 19 => z19
  | 20 => z20
  | 21 => z21
  | 22 => z22
  | 23 => z23
  | 24 => z24
  | 25 => z25
  | 26 => z26
  | 27 => z27
  | 28 => z28
  | 29 => z29
  | 30 => z30
  | 31 => z31
  | 32 => z32
  | 33 => z33
  | 34 => z34
  | 35 => z35
  | 36 => z36
  | 40 => z40
  | 45 => z45
  | 46 => z46
  | 47 => z47
  | 48 => z48
  | 49 => z49
  | 50 => z50
  | 51 => z51
  | 52 => z52
  | 53 => z53
  | 54 => z54
  | 55 => z55
  | 56 => z56
  | 57 => z57
  | 63 => z63
  | 64 => z64
  | 65 => z65
  | 66 => z66
  | 67 => z67
  | 69 => z69
  | 70 => z70
  | 73 => z73
  | 74 => z74
  | 75 => z75
  | _ => 0
def wordsF : Nat → Int32 := upd (upd (upd (upd (upd (upd (upd (upd (upd (upd (upd (upd (upd (upd (upd (upd (upd (upd (upd (upd (upd (upd (upd (upd (upd (upd (upd (upd (upd (fun _ => 0) (0 : Int32).toNatClampNeg 98) (1 : Int32).toNatClampNeg 97) (2 : Int32).toNatClampNeg 115) (3 : Int32).toNatClampNeg 101) (4 : Int32).toNatClampNeg 32) (5 : Int32).toNatClampNeg 0) (6 : Int32).toNatClampNeg 108) (7 : Int32).toNatClampNeg 97) (8 : Int32).toNatClampNeg 119) (9 : Int32).toNatClampNeg 32) (10 : Int32).toNatClampNeg 0) (11 : Int32).toNatClampNeg 118) (12 : Int32).toNatClampNeg 97) (13 : Int32).toNatClampNeg 108) (14 : Int32).toNatClampNeg 117) (15 : Int32).toNatClampNeg 101) (16 : Int32).toNatClampNeg 32) (17 : Int32).toNatClampNeg 0) (18 : Int32).toNatClampNeg 119) (19 : Int32).toNatClampNeg 114) (20 : Int32).toNatClampNeg 105) (21 : Int32).toNatClampNeg 116) (22 : Int32).toNatClampNeg 101) (23 : Int32).toNatClampNeg 32) (24 : Int32).toNatClampNeg 0) (25 : Int32).toNatClampNeg 103) (26 : Int32).toNatClampNeg 111) (27 : Int32).toNatClampNeg 32) (28 : Int32).toNatClampNeg 0
def I0 : Nat → Nat → Int32
  | 0 => fun i => if i = 7 then -1 else 0
  | 1 => fun i => if i = 0 then 10 else if i = 1 then 1 else 0
  | 2 => fun i => if i = 0 then 10 else if i = 1 then 1 else 0
  | 3 => fun i => if i = 0 then 10 else if i = 1 then 1 else 0
  | 14 => fun i => if i = 1 then -1 else if i = 3 then -1 else 0
  | 15 => fun i => if i = 1 then -1 else if i = 3 then -1 else 0
  | 16 => fun i => if i = 1 then -1 else if i = 3 then -1 else 0
  | 17 => fun i => if i = 1 then -1 else if i = 3 then -1 else 0
  | 18 => fun i => if i = 1 then -1 else if i = 3 then -1 else 0
  | 19 => fun i => if i = 1 then -1 else if i = 3 then -1 else 0
  | 20 => fun i => if i = 1 then -1 else if i = 3 then -1 else 0
  | 21 => fun i => if i = 1 then -1 else if i = 3 then -1 else 0
  | 31 => fun i => if i = 5 then -1 else 0
  | 40 => fun i => if i = 2 then 10 else if i = 3 then 1 else if i = 4 then -1 else 0
  | 56 => wordsF
  | _ => fun _ => 0
/-- the state behind both constructors -/
def σ0 : Hp := (I0, fun _ _ => 0, fun _ _ => none, fun _ => 0, 0)
theorem va_P_re {D : va_G} {cl : List vw_C} {ws : va_W} {H : Heap} (h : va_P D cl ws H) (j : Nat) {a : Nat} {cA : ClassId} {n : Nat} {f f' : Nat → Option Nat} (hj : ws[j]? = some (a, .inl (cA, n, .inr (.inr (.inr (.inr f)))))) (hf : ∀ i, i < n → f i = f' i) : va_P D cl (ws.set j (a, .inl (cA, n, .inr (.inr (.inr (.inr f')))))) H := by
  intro k q hk
  by_cases hkj : k = j
  · subst hkj
    rw [List.getElem?_set_self (List.getElem?_eq_some_iff.mp hj).1] at hk
    cases hk
    have h1 := h k _ hj
    show H[a]? = some (vp_cell _ _)
    have h1 : H[a]? = some (vp_cell _ _) := h1
    rw [h1, vp_cell_q, vp_cell_q]
    congr 1
    exact arrV_congr fun i hi => by rw [hf i hi]
  · rw [List.getElem?_set_ne (Ne.symm hkj)] at hk
    exact h k q hk
set_option maxHeartbeats 40000000 in
set_option maxRecDepth 100000 in
theorem world0 {g : tG} {x0 x1 x28 x5 x2 x29 x6 x3 x30 x7 x4 x31 x8 x9 x10 x12 x14 x16 x18 x20 x22 x24 x11 x13 x15 x17 x19 x21 x23 x25 x26 x27 x32 x33 x34 x35 x36 y0 y1 y2 y3 y4 y5 y6 y7 y8 y9 y10 y11 y12 y13 y14 y15 y16 y17 y18 y19 y20 y21 y22 y23 : Nat} {P : Nat → Nat} : [0, 1, 28, 5, 2, 29, 6, 3, 30, 7, 4, 31, 8, 9, 10, 12, 14, 16, 18, 20, 22, 24, 11, 13, 15, 17, 19, 21, 23, 25, 26, 27, 32, 33, 34, 35, 36, 37, 38, 39, 40, 41, 42, 43, 44, 45, 46, 47, 48, 49, 50, 51, 52, 53, 54, 55, 56, 57, 58, 59, 60].filterMap (fun i => (([(x0, .inr (10, [.ref x1, .ref x5, .int 0, .ref x9, .ref x26, .ref x27, .int (-1), .ref x32, .ref x33, .ref x34, .ref x35, .ref x36])), (x1, .inr (6, [.int 10, .int 1, .int 0, .int 0, .ref x2, .ref x3, .ref x4])), (x2, .inl (gC g 2, 6, .inr (.inr (.inr (.inr (fun _ => none)))))), (x3, .inl (gC g 0, 60, .inl (fun _ => 0))), (x4, .inl (gC g 1, 20, .inr (.inl (fun _ => 0)))), (x5, .inr (6, [.int 10, .int 1, .int 0, .int 0, .ref x6, .ref x7, .ref x8])), (x6, .inl (gC g 2, 6, .inr (.inr (.inr (.inr (fun _ => none)))))), (x7, .inl (gC g 0, 60, .inl (fun _ => 0))), (x8, .inl (gC g 1, 20, .inr (.inl (fun _ => 0)))), (x9, .inl (gC g 3, 8, .inr (.inr (.inr (.inr (va_up (va_up (va_up (va_up (va_up (va_up (va_up (va_up (fun _ => none) (0 : Int32).toNatClampNeg (some x10)) (1 : Int32).toNatClampNeg (some x12)) (2 : Int32).toNatClampNeg (some x14)) (3 : Int32).toNatClampNeg (some x16)) (4 : Int32).toNatClampNeg (some x18)) (5 : Int32).toNatClampNeg (some x20)) (6 : Int32).toNatClampNeg (some x22)) (7 : Int32).toNatClampNeg (some x24))))))), (x10, .inr (4, [.ref x11, .int (-1), .int 0, .int (-1)])), (x11, .inl (gC g 1, 160, .inr (.inl (fun _ => 0)))), (x12, .inr (4, [.ref x13, .int (-1), .int 0, .int (-1)])), (x13, .inl (gC g 1, 160, .inr (.inl (fun _ => 0)))), (x14, .inr (4, [.ref x15, .int (-1), .int 0, .int (-1)])), (x15, .inl (gC g 1, 160, .inr (.inl (fun _ => 0)))), (x16, .inr (4, [.ref x17, .int (-1), .int 0, .int (-1)])), (x17, .inl (gC g 1, 160, .inr (.inl (fun _ => 0)))), (x18, .inr (4, [.ref x19, .int (-1), .int 0, .int (-1)])), (x19, .inl (gC g 1, 160, .inr (.inl (fun _ => 0)))), (x20, .inr (4, [.ref x21, .int (-1), .int 0, .int (-1)])), (x21, .inl (gC g 1, 160, .inr (.inl (fun _ => 0)))), (x22, .inr (4, [.ref x23, .int (-1), .int 0, .int (-1)])), (x23, .inl (gC g 1, 160, .inr (.inl (fun _ => 0)))), (x24, .inr (4, [.ref x25, .int (-1), .int 0, .int (-1)])), (x25, .inl (gC g 1, 160, .inr (.inl (fun _ => 0)))), (x26, .inl (gC g 0, 7, .inl (fun _ => 0))), (x27, .inr (3, [.ref x28, .null, .int 0, .int 0, .int 0, .int (-1)])), (x28, .inr (6, [.int 10, .int 1, .int 0, .int 0, .ref x29, .ref x30, .ref x31])), (x29, .inl (gC g 2, 6, .inr (.inr (.inr (.inr (fun _ => none)))))), (x30, .inl (gC g 0, 60, .inl (fun _ => 0))), (x31, .inl (gC g 1, 20, .inr (.inl (fun _ => 0)))), (x32, .inl (gC g 0, 21, .inl (fun _ => 0))), (x33, .inl (gC g 1, 1001, .inr (.inl (fun _ => 0)))), (x34, .inl (gC g 1, 3, .inr (.inl (fun _ => 0)))), (x35, .inl (gC g 1, 500, .inr (.inl (fun _ => 0)))), (x36, .inl (gC g 1, 157, .inr (.inl (fun _ => 0)))), (y0, .inr (11, [.int 0, .int 0, .int 10, .int 1, .int (-1), .ref y1, .ref y2, .ref y3, .ref y4, .ref y5, .ref y6, .ref y7, .ref y8, .ref y9, .ref y10, .ref y11, .ref y12, .ref y13, .int 0, .int 0, .int 0, .int 0, .int 0, .ref y14, .ref y15, .ref y16, .ref y17, .ref y18, .long 0, .ref y19, .ref y20, .int 0, .int 0, .ref y21, .ref y22, .ref y23, .int 0, .int 0])), (y1, .inl (gC g 0, 8, .inl (fun _ => 0))), (y2, .inl (gC g 0, 6, .inl (fun _ => 0))), (y3, .inl (gC g 0, 6, .inl (fun _ => 0))), (y4, .inl (gC g 0, 60, .inl (fun _ => 0))), (y5, .inl (gC g 1, 20, .inr (.inl (fun _ => 0)))), (y6, .inl (gC g 0, 8, .inl (fun _ => 0))), (y7, .inl (gC g 0, 8, .inl (fun _ => 0))), (y8, .inl (gC g 0, 8, .inl (fun _ => 0))), (y9, .inl (gC g 0, 8, .inl (fun _ => 0))), (y10, .inl (gC g 1, 1280, .inr (.inl (fun _ => 0)))), (y11, .inl (gC g 1, 160, .inr (.inl (fun _ => 0)))), (y12, .inl (gC g 0, 29, .inl (upd (upd (upd (upd (upd (upd (upd (upd (upd (upd (upd (upd (upd (upd (upd (upd (upd (upd (upd (upd (upd (upd (upd (upd (upd (upd (upd (upd (upd (fun _ => 0) (0 : Int32).toNatClampNeg 98) (1 : Int32).toNatClampNeg 97) (2 : Int32).toNatClampNeg 115) (3 : Int32).toNatClampNeg 101) (4 : Int32).toNatClampNeg 32) (5 : Int32).toNatClampNeg 0) (6 : Int32).toNatClampNeg 108) (7 : Int32).toNatClampNeg 97) (8 : Int32).toNatClampNeg 119) (9 : Int32).toNatClampNeg 32) (10 : Int32).toNatClampNeg 0) (11 : Int32).toNatClampNeg 118) (12 : Int32).toNatClampNeg 97) (13 : Int32).toNatClampNeg 108) (14 : Int32).toNatClampNeg 117) (15 : Int32).toNatClampNeg 101) (16 : Int32).toNatClampNeg 32) (17 : Int32).toNatClampNeg 0) (18 : Int32).toNatClampNeg 119) (19 : Int32).toNatClampNeg 114) (20 : Int32).toNatClampNeg 105) (21 : Int32).toNatClampNeg 116) (22 : Int32).toNatClampNeg 101) (23 : Int32).toNatClampNeg 32) (24 : Int32).toNatClampNeg 0) (25 : Int32).toNatClampNeg 103) (26 : Int32).toNatClampNeg 111) (27 : Int32).toNatClampNeg 32) (28 : Int32).toNatClampNeg 0))), (y13, .inl (gC g 0, 3, .inl (fun _ => 0))), (y14, .inl (gC g 0, 80, .inl (fun _ => 0))), (y15, .inl (gC g 0, 80, .inl (fun _ => 0))), (y16, .inl (gC g 1, 20, .inr (.inl (fun _ => 0)))), (y17, .inl (gC g 1, 20, .inr (.inl (fun _ => 0)))), (y18, .inl (gC g 0, 64, .inl (fun _ => 0))), (y19, .inl (gC g 1, 1001, .inr (.inl (fun _ => 0)))), (y20, .inl (gC g 1, 201, .inr (.inl (fun _ => 0)))), (y21, .inl (gC g 0, 10000, .inl (fun _ => 0))), (y22, .inl (gC g 1, 500, .inr (.inl (fun _ => 0)))), (y23, .inl (gC g 0, 20, .inl (fun _ => 0)))] : va_W).set 9 (x9, .inl (gC g 3, 8, .inr (.inr (.inr (.inr (fun i => some (Lf x0 x1 x28 x5 x2 x29 x6 x3 x30 x7 x4 x31 x8 x9 x10 x12 x14 x16 x18 x20 x22 x24 x11 x13 x15 x17 x19 x21 x23 x25 x26 x27 x32 x33 x34 x35 x36 y0 y1 y2 y3 y4 y5 y6 y7 y8 y9 y10 y11 y12 y13 y14 y15 y16 y17 y18 y19 y20 y21 y22 y23 (14 + i)))))))))[i]?) = wC (g.1, g.2.1, Lf x0 x1 x28 x5 x2 x29 x6 x3 x30 x7 x4 x31 x8 x9 x10 x12 x14 x16 x18 x20 x22 x24 x11 x13 x15 x17 x19 x21 x23 x25 x26 x27 x32 x33 x34 x35 x36 y0 y1 y2 y3 y4 y5 y6 y7 y8 y9 y10 y11 y12 y13 y14 y15 y16 y17 y18 y19 y20 y21 y22 y23, g.2.2.2) P σ0 := rfl
set_option maxHeartbeats 40000000 in
set_option maxRecDepth 100000 in
theorem world0D {g : tG} {x0 x1 x28 x5 x2 x29 x6 x3 x30 x7 x4 x31 x8 x9 x10 x12 x14 x16 x18 x20 x22 x24 x11 x13 x15 x17 x19 x21 x23 x25 x26 x27 x32 x33 x34 x35 x36 y0 y1 y2 y3 y4 y5 y6 y7 y8 y9 y10 y11 y12 y13 y14 y15 y16 y17 y18 y19 y20 y21 y22 y23 : Nat} {P : Nat → Nat} : [0, 1, 28, 5, 2, 29, 6, 3, 30, 7, 4, 31, 8, 9, 10, 12, 14, 16, 18, 20, 22, 24, 11, 13, 15, 17, 19, 21, 23, 25, 26, 27, 32, 33, 34, 35, 36, 37, 38, 39, 40, 41, 42, 43, 44, 45, 46, 47, 48, 49, 50, 51, 52, 53, 54, 55, 56, 57, 58, 59, 60].map (fun i => (([(x0, .inr (10, [.ref x1, .ref x5, .int 0, .ref x9, .ref x26, .ref x27, .int (-1), .ref x32, .ref x33, .ref x34, .ref x35, .ref x36])), (x1, .inr (6, [.int 10, .int 1, .int 0, .int 0, .ref x2, .ref x3, .ref x4])), (x2, .inl (gC g 2, 6, .inr (.inr (.inr (.inr (fun _ => none)))))), (x3, .inl (gC g 0, 60, .inl (fun _ => 0))), (x4, .inl (gC g 1, 20, .inr (.inl (fun _ => 0)))), (x5, .inr (6, [.int 10, .int 1, .int 0, .int 0, .ref x6, .ref x7, .ref x8])), (x6, .inl (gC g 2, 6, .inr (.inr (.inr (.inr (fun _ => none)))))), (x7, .inl (gC g 0, 60, .inl (fun _ => 0))), (x8, .inl (gC g 1, 20, .inr (.inl (fun _ => 0)))), (x9, .inl (gC g 3, 8, .inr (.inr (.inr (.inr (va_up (va_up (va_up (va_up (va_up (va_up (va_up (va_up (fun _ => none) (0 : Int32).toNatClampNeg (some x10)) (1 : Int32).toNatClampNeg (some x12)) (2 : Int32).toNatClampNeg (some x14)) (3 : Int32).toNatClampNeg (some x16)) (4 : Int32).toNatClampNeg (some x18)) (5 : Int32).toNatClampNeg (some x20)) (6 : Int32).toNatClampNeg (some x22)) (7 : Int32).toNatClampNeg (some x24))))))), (x10, .inr (4, [.ref x11, .int (-1), .int 0, .int (-1)])), (x11, .inl (gC g 1, 160, .inr (.inl (fun _ => 0)))), (x12, .inr (4, [.ref x13, .int (-1), .int 0, .int (-1)])), (x13, .inl (gC g 1, 160, .inr (.inl (fun _ => 0)))), (x14, .inr (4, [.ref x15, .int (-1), .int 0, .int (-1)])), (x15, .inl (gC g 1, 160, .inr (.inl (fun _ => 0)))), (x16, .inr (4, [.ref x17, .int (-1), .int 0, .int (-1)])), (x17, .inl (gC g 1, 160, .inr (.inl (fun _ => 0)))), (x18, .inr (4, [.ref x19, .int (-1), .int 0, .int (-1)])), (x19, .inl (gC g 1, 160, .inr (.inl (fun _ => 0)))), (x20, .inr (4, [.ref x21, .int (-1), .int 0, .int (-1)])), (x21, .inl (gC g 1, 160, .inr (.inl (fun _ => 0)))), (x22, .inr (4, [.ref x23, .int (-1), .int 0, .int (-1)])), (x23, .inl (gC g 1, 160, .inr (.inl (fun _ => 0)))), (x24, .inr (4, [.ref x25, .int (-1), .int 0, .int (-1)])), (x25, .inl (gC g 1, 160, .inr (.inl (fun _ => 0)))), (x26, .inl (gC g 0, 7, .inl (fun _ => 0))), (x27, .inr (3, [.ref x28, .null, .int 0, .int 0, .int 0, .int (-1)])), (x28, .inr (6, [.int 10, .int 1, .int 0, .int 0, .ref x29, .ref x30, .ref x31])), (x29, .inl (gC g 2, 6, .inr (.inr (.inr (.inr (fun _ => none)))))), (x30, .inl (gC g 0, 60, .inl (fun _ => 0))), (x31, .inl (gC g 1, 20, .inr (.inl (fun _ => 0)))), (x32, .inl (gC g 0, 21, .inl (fun _ => 0))), (x33, .inl (gC g 1, 1001, .inr (.inl (fun _ => 0)))), (x34, .inl (gC g 1, 3, .inr (.inl (fun _ => 0)))), (x35, .inl (gC g 1, 500, .inr (.inl (fun _ => 0)))), (x36, .inl (gC g 1, 157, .inr (.inl (fun _ => 0)))), (y0, .inr (11, [.int 0, .int 0, .int 10, .int 1, .int (-1), .ref y1, .ref y2, .ref y3, .ref y4, .ref y5, .ref y6, .ref y7, .ref y8, .ref y9, .ref y10, .ref y11, .ref y12, .ref y13, .int 0, .int 0, .int 0, .int 0, .int 0, .ref y14, .ref y15, .ref y16, .ref y17, .ref y18, .long 0, .ref y19, .ref y20, .int 0, .int 0, .ref y21, .ref y22, .ref y23, .int 0, .int 0])), (y1, .inl (gC g 0, 8, .inl (fun _ => 0))), (y2, .inl (gC g 0, 6, .inl (fun _ => 0))), (y3, .inl (gC g 0, 6, .inl (fun _ => 0))), (y4, .inl (gC g 0, 60, .inl (fun _ => 0))), (y5, .inl (gC g 1, 20, .inr (.inl (fun _ => 0)))), (y6, .inl (gC g 0, 8, .inl (fun _ => 0))), (y7, .inl (gC g 0, 8, .inl (fun _ => 0))), (y8, .inl (gC g 0, 8, .inl (fun _ => 0))), (y9, .inl (gC g 0, 8, .inl (fun _ => 0))), (y10, .inl (gC g 1, 1280, .inr (.inl (fun _ => 0)))), (y11, .inl (gC g 1, 160, .inr (.inl (fun _ => 0)))), (y12, .inl (gC g 0, 29, .inl (upd (upd (upd (upd (upd (upd (upd (upd (upd (upd (upd (upd (upd (upd (upd (upd (upd (upd (upd (upd (upd (upd (upd (upd (upd (upd (upd (upd (upd (fun _ => 0) (0 : Int32).toNatClampNeg 98) (1 : Int32).toNatClampNeg 97) (2 : Int32).toNatClampNeg 115) (3 : Int32).toNatClampNeg 101) (4 : Int32).toNatClampNeg 32) (5 : Int32).toNatClampNeg 0) (6 : Int32).toNatClampNeg 108) (7 : Int32).toNatClampNeg 97) (8 : Int32).toNatClampNeg 119) (9 : Int32).toNatClampNeg 32) (10 : Int32).toNatClampNeg 0) (11 : Int32).toNatClampNeg 118) (12 : Int32).toNatClampNeg 97) (13 : Int32).toNatClampNeg 108) (14 : Int32).toNatClampNeg 117) (15 : Int32).toNatClampNeg 101) (16 : Int32).toNatClampNeg 32) (17 : Int32).toNatClampNeg 0) (18 : Int32).toNatClampNeg 119) (19 : Int32).toNatClampNeg 114) (20 : Int32).toNatClampNeg 105) (21 : Int32).toNatClampNeg 116) (22 : Int32).toNatClampNeg 101) (23 : Int32).toNatClampNeg 32) (24 : Int32).toNatClampNeg 0) (25 : Int32).toNatClampNeg 103) (26 : Int32).toNatClampNeg 111) (27 : Int32).toNatClampNeg 32) (28 : Int32).toNatClampNeg 0))), (y13, .inl (gC g 0, 3, .inl (fun _ => 0))), (y14, .inl (gC g 0, 80, .inl (fun _ => 0))), (y15, .inl (gC g 0, 80, .inl (fun _ => 0))), (y16, .inl (gC g 1, 20, .inr (.inl (fun _ => 0)))), (y17, .inl (gC g 1, 20, .inr (.inl (fun _ => 0)))), (y18, .inl (gC g 0, 64, .inl (fun _ => 0))), (y19, .inl (gC g 1, 1001, .inr (.inl (fun _ => 0)))), (y20, .inl (gC g 1, 201, .inr (.inl (fun _ => 0)))), (y21, .inl (gC g 0, 10000, .inl (fun _ => 0))), (y22, .inl (gC g 1, 500, .inr (.inl (fun _ => 0)))), (y23, .inl (gC g 0, 20, .inl (fun _ => 0)))] : va_W).set 9 (x9, .inl (gC g 3, 8, .inr (.inr (.inr (.inr (fun i => some (Lf x0 x1 x28 x5 x2 x29 x6 x3 x30 x7 x4 x31 x8 x9 x10 x12 x14 x16 x18 x20 x22 x24 x11 x13 x15 x17 x19 x21 x23 x25 x26 x27 x32 x33 x34 x35 x36 y0 y1 y2 y3 y4 y5 y6 y7 y8 y9 y10 y11 y12 y13 y14 y15 y16 y17 y18 y19 y20 y21 y22 y23 (14 + i)))))))))[i]?) = (wC (g.1, g.2.1, Lf x0 x1 x28 x5 x2 x29 x6 x3 x30 x7 x4 x31 x8 x9 x10 x12 x14 x16 x18 x20 x22 x24 x11 x13 x15 x17 x19 x21 x23 x25 x26 x27 x32 x33 x34 x35 x36 y0 y1 y2 y3 y4 y5 y6 y7 y8 y9 y10 y11 y12 y13 y14 y15 y16 y17 y18 y19 y20 y21 y22 y23, g.2.2.2) P σ0).map some := rfl
set_option maxHeartbeats 4000000 in
set_option maxRecDepth 100000 in
theorem t_known0 {args : Array Value} {s : State} (hts : ∀ w ∈ lw_tbl, w.before args s = true) : ∃ (D : va_G) (cs : Nat → ClassId), va_K D vwCl [(cs 0, .int), (cs 1, .long), (cs 2, .object "TurnedAbout$Law"), (cs 3, .object "TurnedAbout$Shelf")] s := by
  have ht : ∀ w ∈ tblG, w.before args s = true := fun w h => hts w (List.mem_filter.mp h).1
  obtain ⟨c0, i0, k0⟩ := u_known (C := RX0) (T := TX0) (N := 2) (n := 2) ht ui_X0 (ht _ tw428)
  obtain ⟨c1, i1, k1⟩ := u_known (C := RX2) (T := TX2) (N := 2) (n := 2) ht ui_X2 (ht _ tw435)
  obtain ⟨c2, i2, k2⟩ := u_known (C := RX3) (T := TX3) (N := 2) (n := 2) ht ui_X3 (ht _ tw404)
  obtain ⟨c3, i3, k3⟩ := u_known (C := RX4) (T := TX4) (N := 6) (n := 6) ht ui_X4 (ht _ tw102)
  obtain ⟨c4, i4, k4⟩ := u_known (C := RX5) (T := TX5) (N := 4) (n := 4) ht ui_X5 (ht _ tw78)
  obtain ⟨c5, i5, k5⟩ := u_known (C := RX6) (T := TX6) (N := 2) (n := 2) ht ui_X6 (ht _ tw396)
  obtain ⟨c6, i6, k6⟩ := u_known (C := RX7) (T := TX7) (N := 7) (n := 7) ht ui_X7 (ht _ tw30)
  obtain ⟨c7, i7, k7⟩ := u_known (C := RX8) (T := TX8) (N := 2) (n := 2) ht ui_X8 (ht _ tw369)
  obtain ⟨c8, i8, k8⟩ := u_known (C := RX9) (T := TX9) (N := 2) (n := 2) ht ui_X9 (ht _ tw412)
  obtain ⟨c9, i9, k9⟩ := u_known (C := RX10) (T := TX10) (N := 2) (n := 2) ht ui_X10 (ht _ tw420)
  obtain ⟨c10, i10, k10⟩ := u_known (C := RX11) (T := TX11) (N := 12) (n := 12) ht ui_X11 (ht _ tw22)
  obtain ⟨c11, i11, k11⟩ := u_known (C := RX12) (T := TX12) (N := 38) (n := 38) ht ui_X12 (ht _ tw911)
  obtain ⟨e0, f0, g0, h01, h02, h03⟩ := Cond.arrayClass_spec (ht _ twAI)
  obtain ⟨e1, f1, g1, h11, h12, h13⟩ := Cond.arrayClass_spec (ht _ twAJ)
  obtain ⟨g2, e2, f2, h20, -, h21, h22, h23⟩ := Cond.arrayOver_spec (show (Cond.arrayOver (.object "TurnedAbout$Law")).before args s = true from (hts _ (List.mem_append_right _ (List.mem_of_getElem? (i := 36) (by decide +kernel)))))
  obtain ⟨g3, e3, f3, h30, -, h31, h32, h33⟩ := Cond.arrayOver_spec (show (Cond.arrayOver (.object "TurnedAbout$Shelf")).before args s = true from (hts _ (List.mem_append_right _ (List.mem_of_getElem? (i := 77) (by decide +kernel)))))
  refine ⟨(fun k => match k with | 0 => c0 | 1 => c1 | 2 => c2 | 3 => c3 | 4 => c4 | 5 => c5 | 6 => c6 | 7 => c7 | 8 => c8 | 9 => c9 | 10 => c10 | _ => c11, fun k => match k with | 0 => i0 | 1 => i1 | 2 => i2 | 3 => i3 | 4 => i4 | 5 => i5 | 6 => i6 | 7 => i7 | 8 => i8 | 9 => i9 | 10 => i10 | _ => i11), (fun k => match k with | 0 => e0 | 1 => e1 | 2 => e2 | _ => e3), ?_, ?_⟩
  · intro k q hq
    match k, hq with
    | 0, hq => cases hq; exact k0
    | 1, hq => cases hq; exact k1
    | 2, hq => cases hq; exact k2
    | 3, hq => cases hq; exact k3
    | 4, hq => cases hq; exact k4
    | 5, hq => cases hq; exact k5
    | 6, hq => cases hq; exact k6
    | 7, hq => cases hq; exact k7
    | 8, hq => cases hq; exact k8
    | 9, hq => cases hq; exact k9
    | 10, hq => cases hq; exact k10
    | 11, hq => cases hq; exact k11
    | k + 12, hq => simp [vwCl] at hq
  · intro k q hq
    match k, hq with
    | 0, hq => cases hq; exact ⟨fun N z => ⟨(fun k h => by cases h), f0, h02, g0, h03⟩, h01⟩
    | 1, hq => cases hq; exact ⟨fun N z => ⟨(fun k h => by cases h), f1, h12, g1, h13⟩, h11⟩
    | 2, hq => cases hq; exact ⟨fun N z => ⟨(fun k h => by cases h), f2, h21, g2, h22⟩, f2, g2, h21, h22, h20, h23⟩
    | 3, hq => cases hq; exact ⟨fun N z => ⟨(fun k h => by cases h), f3, h31, g3, h32⟩, f3, g3, h31, h32, h30, h33⟩
    | k + 4, hq => simp at hq
set_option maxHeartbeats 8000000 in
set_option maxRecDepth 100000 in
theorem t_texts {args : Array Value} {s : State} {A : Nat → Prop} (hts : ∀ w ∈ lw_tbl, w.before args s = true) (hgv : (Jvm.Cond.and given_1 narrow_1).before args s = true) (hA : ∀ a : Nat, a < s.heap.size → ¬ A a) : ∃ (aK aV : Nat → Nat) (aF : Option Nat), (vk_S 5 txLen txByt aK aV A s s.heap ∧ va_Z "java/lang/String" "COMPACT_STRINGS" "Z" (.int 1) A s s.heap ∧ va_Z "jdk/internal/util/Preconditions" "SIOOBE_FORMATTER" "Ljava/util/function/BiFunction;" (va_rf aF) A s s.heap) ∧ ∀ i, i < 5 → vk_R RX4 (txIx.getD i 0) (txTx.getD i "") (aK i) s := by
  have hs := flat_of_before _ hgv
  have ht : ∀ w ∈ tblG, w.before args s = true := fun w h => hts w (List.mem_filter.mp h).1
  obtain ⟨aK, aV, h1, h2⟩ := vk_Sof (args := args) (s := s) (N := 5) (tm := fun i => Term.string RX4 (txIx.getD i 0)) (len := txLen) (byt := txByt) (A := A) (by decide)
   (fun i hi => by
    match i, hi with
    | 0, _ => exact hs _ (by decide +kernel)
    | 1, _ => exact hs _ (by decide +kernel)
    | 2, _ => exact hs _ (by decide +kernel)
    | 3, _ => exact hs _ (by decide +kernel)
    | 4, _ => exact hs _ (by decide +kernel)
    | i + 5, hi => omega)
   (fun i hi => by
    match i, hi with
    | 0, _ => exact hs _ (by decide +kernel)
    | 1, _ => exact hs _ (by decide +kernel)
    | 2, _ => exact hs _ (by decide +kernel)
    | 3, _ => exact hs _ (by decide +kernel)
    | 4, _ => exact hs _ (by decide +kernel)
    | i + 5, hi => omega)
   (fun i hi => by
    match i, hi with
    | 0, _ => exact hs _ (by decide +kernel)
    | 1, _ => exact hs _ (by decide +kernel)
    | 2, _ => exact hs _ (by decide +kernel)
    | 3, _ => exact hs _ (by decide +kernel)
    | 4, _ => exact hs _ (by decide +kernel)
    | i + 5, hi => omega)
   (fun i hi => by
    match i, hi with
    | 0, _ => exact hs _ (by decide +kernel)
    | 1, _ => exact hs _ (by decide +kernel)
    | 2, _ => exact hs _ (by decide +kernel)
    | 3, _ => exact hs _ (by decide +kernel)
    | 4, _ => exact hs _ (by decide +kernel)
    | i + 5, hi => omega)
   (fun i hi j hj => by
    match i, hi with
    | 0, _ =>
      match j, hj with
      | 0, _ => exact hs _ (by decide +kernel)
      | 1, _ => exact hs _ (by decide +kernel)
      | 2, _ => exact hs _ (by decide +kernel)
      | 3, _ => exact hs _ (by decide +kernel)
      | j + 4, hj => exact absurd (show j + 4 < 4 from hj) (by omega)
    | 1, _ =>
      match j, hj with
      | 0, _ => exact hs _ (by decide +kernel)
      | 1, _ => exact hs _ (by decide +kernel)
      | 2, _ => exact hs _ (by decide +kernel)
      | j + 3, hj => exact absurd (show j + 3 < 3 from hj) (by omega)
    | 2, _ =>
      match j, hj with
      | 0, _ => exact hs _ (by decide +kernel)
      | 1, _ => exact hs _ (by decide +kernel)
      | 2, _ => exact hs _ (by decide +kernel)
      | 3, _ => exact hs _ (by decide +kernel)
      | 4, _ => exact hs _ (by decide +kernel)
      | j + 5, hj => exact absurd (show j + 5 < 5 from hj) (by omega)
    | 3, _ =>
      match j, hj with
      | 0, _ => exact hs _ (by decide +kernel)
      | 1, _ => exact hs _ (by decide +kernel)
      | 2, _ => exact hs _ (by decide +kernel)
      | 3, _ => exact hs _ (by decide +kernel)
      | 4, _ => exact hs _ (by decide +kernel)
      | j + 5, hj => exact absurd (show j + 5 < 5 from hj) (by omega)
    | 4, _ =>
      match j, hj with
      | 0, _ => exact hs _ (by decide +kernel)
      | 1, _ => exact hs _ (by decide +kernel)
      | j + 2, hj => exact absurd (show j + 2 < 2 from hj) (by omega)
    | i + 5, hi => omega)
   (fun i j hi hj hij => by
    match i, hi, j, hj with
    | 0, _, 0, _ => exact absurd rfl hij
    | 0, _, 1, _ => first | exact Or.inl (hs _ (by decide +kernel)) | exact Or.inr (hs _ (by decide +kernel))
    | 0, _, 2, _ => first | exact Or.inl (hs _ (by decide +kernel)) | exact Or.inr (hs _ (by decide +kernel))
    | 0, _, 3, _ => first | exact Or.inl (hs _ (by decide +kernel)) | exact Or.inr (hs _ (by decide +kernel))
    | 0, _, 4, _ => first | exact Or.inl (hs _ (by decide +kernel)) | exact Or.inr (hs _ (by decide +kernel))
    | 1, _, 0, _ => first | exact Or.inl (hs _ (by decide +kernel)) | exact Or.inr (hs _ (by decide +kernel))
    | 1, _, 1, _ => exact absurd rfl hij
    | 1, _, 2, _ => first | exact Or.inl (hs _ (by decide +kernel)) | exact Or.inr (hs _ (by decide +kernel))
    | 1, _, 3, _ => first | exact Or.inl (hs _ (by decide +kernel)) | exact Or.inr (hs _ (by decide +kernel))
    | 1, _, 4, _ => first | exact Or.inl (hs _ (by decide +kernel)) | exact Or.inr (hs _ (by decide +kernel))
    | 2, _, 0, _ => first | exact Or.inl (hs _ (by decide +kernel)) | exact Or.inr (hs _ (by decide +kernel))
    | 2, _, 1, _ => first | exact Or.inl (hs _ (by decide +kernel)) | exact Or.inr (hs _ (by decide +kernel))
    | 2, _, 2, _ => exact absurd rfl hij
    | 2, _, 3, _ => first | exact Or.inl (hs _ (by decide +kernel)) | exact Or.inr (hs _ (by decide +kernel))
    | 2, _, 4, _ => first | exact Or.inl (hs _ (by decide +kernel)) | exact Or.inr (hs _ (by decide +kernel))
    | 3, _, 0, _ => first | exact Or.inl (hs _ (by decide +kernel)) | exact Or.inr (hs _ (by decide +kernel))
    | 3, _, 1, _ => first | exact Or.inl (hs _ (by decide +kernel)) | exact Or.inr (hs _ (by decide +kernel))
    | 3, _, 2, _ => first | exact Or.inl (hs _ (by decide +kernel)) | exact Or.inr (hs _ (by decide +kernel))
    | 3, _, 3, _ => exact absurd rfl hij
    | 3, _, 4, _ => first | exact Or.inl (hs _ (by decide +kernel)) | exact Or.inr (hs _ (by decide +kernel))
    | 4, _, 0, _ => first | exact Or.inl (hs _ (by decide +kernel)) | exact Or.inr (hs _ (by decide +kernel))
    | 4, _, 1, _ => first | exact Or.inl (hs _ (by decide +kernel)) | exact Or.inr (hs _ (by decide +kernel))
    | 4, _, 2, _ => first | exact Or.inl (hs _ (by decide +kernel)) | exact Or.inr (hs _ (by decide +kernel))
    | 4, _, 3, _ => first | exact Or.inl (hs _ (by decide +kernel)) | exact Or.inr (hs _ (by decide +kernel))
    | 4, _, 4, _ => exact absurd rfl hij
    | i + 5, hi, _, _ => omega
    | _, _, j + 5, hj => omega) hA
  have hF : ∃ o : Option Nat, (Term.static "jdk/internal/util/Preconditions" "SIOOBE_FORMATTER" "Ljava/util/function/BiFunction;").eval args s none [] s = some (va_rf o) := by
    have h3 : (Cond.isRef (.static "jdk/internal/util/Preconditions" "SIOOBE_FORMATTER" "Ljava/util/function/BiFunction;")).before args s = true := hs _ (by decide +kernel)
    cases hv : (Term.static "jdk/internal/util/Preconditions" "SIOOBE_FORMATTER" "Ljava/util/function/BiFunction;").eval args s none [] s with
    | none => simp [Cond.before, Cond.holds, Cond.value, hv] at h3
    | some w => cases w <;> first | exact ⟨none, rfl⟩ | exact ⟨some _, rfl⟩ | simp [Cond.before, Cond.holds, Cond.value, hv] at h3
  obtain ⟨aF, hF⟩ := hF
  refine ⟨aK, aV, aF, ⟨h1, va_Zof (hts _ (List.mem_append_right _ (List.mem_of_getElem? (i := 515) (by decide +kernel)))) (ht _ tw17) (va_eqi (hs _ (by decide +kernel))) hA, va_Zof (hts _ (List.mem_append_right _ (List.mem_of_getElem? (i := 531) (by decide +kernel)))) (ht _ tw19) hF hA⟩, fun i hi => ?_⟩
  have h4 := h2 i hi
  match i, hi, h4 with
  | 0, _, h4 => exact vk_R.of (hts _ (List.mem_append_right _ (List.mem_of_getElem? (i := 501) (by decide +kernel)))) (show (Term.string RX4 68).eval _ _ _ _ _ = _ from by first | exact h4 | (rw [← h4]; rfl))
  | 1, _, h4 => exact vk_R.of (hts _ (List.mem_append_right _ (List.mem_of_getElem? (i := 573) (by decide +kernel)))) (show (Term.string RX4 83).eval _ _ _ _ _ = _ from by first | exact h4 | (rw [← h4]; rfl))
  | 2, _, h4 => exact vk_R.of (hts _ (List.mem_append_right _ (List.mem_of_getElem? (i := 580) (by decide +kernel)))) (show (Term.string RX4 92).eval _ _ _ _ _ = _ from by first | exact h4 | (rw [← h4]; rfl))
  | 3, _, h4 => exact vk_R.of (hts _ (List.mem_append_right _ (List.mem_of_getElem? (i := 588) (by decide +kernel)))) (show (Term.string RX4 113).eval _ _ _ _ _ = _ from by first | exact h4 | (rw [← h4]; rfl))
  | 4, _, h4 => exact vk_R.of (hts _ (List.mem_append_right _ (List.mem_of_getElem? (i := 602) (by decide +kernel)))) (show (Term.string RX4 123).eval _ _ _ _ _ = _ from by first | exact h4 | (rw [← h4]; rfl))
  | i + 5, hi, _ => omega
