/-! the constructors: from the law's entry to the steady world -/
def yS0 : xiS := ([], fun _ _ => 0, fun _ _ => 0, fun _ _ => 0)
def yS1 : xiS := ([(0, 8)], xi_z (yS0.2.1) 0 0, xi_z (yS0.2.2.1) 0 0, xi_z (yS0.2.2.2) 0 0)
set_option maxRecDepth 20000 in
theorem i_0 {L0 : Nat} {xs : Nat → Int32} {Q : xiQ} (h : xi_V (xG L0 xs) 173 3 [some (Value.ref 1000000), none, none, none] [Value.ref 0] yS1 1 7 Q) :
    xi_V (xG L0 xs) 173 0 [some (Value.ref 1000000), none, none, none] [] yS0 0 0 Q :=
  have h1 : xi_V (xG L0 xs) 173 3 [some (Value.ref 1000000), none, none, none] [Value.ref 0] yS1 1 7 Q := h
  xi_go 173 [(3, [])] 400 h1
set_option maxRecDepth 20000 in
theorem i_1 {L0 : Nat} {xs : Nat → Int32} {Q : xiQ} (h : xi_V (xG L0 xs) 70 0 [some (Value.ref 0)] [] yS1 0 0 (fun r σ' => xi_V (xG L0 xs) 173 7 [some (Value.ref 1000000), none, none, none] (r.toList ++ [Value.ref 0]) σ' 37 2091 Q)) :
    xi_V (xG L0 xs) 173 3 [some (Value.ref 1000000), none, none, none] [Value.ref 0] yS1 1 7 Q :=
  have h1 : xi_V (xG L0 xs) 70 0 [some (Value.ref 0)] [] yS1 0 0 (fun r σ' => xi_V (xG L0 xs) 173 7 [some (Value.ref 1000000), none, none, none] (r.toList ++ [Value.ref 0]) σ' 37 2091 Q) := h
  xi_go 173 [(7, [])] 400 h1
def yS2 : xiS := ([(0, 8), (0, 6)], xi_z (yS1.2.1) 1 0, xi_z (yS1.2.2.1) 1 0, xi_z (yS1.2.2.2) 1 0)
set_option maxRecDepth 20000 in
theorem i_2 {L0 : Nat} {xs : Nat → Int32} {Q : xiQ} (h : xi_V (xG L0 xs) 58 0 [some (Value.ref 1)] [] yS2 0 0 (fun r σ' => xi_V (xG L0 xs) 70 12 [some (Value.ref 0)] (r.toList ++ [Value.ref 1, Value.ref 0]) σ' 4 499 Q)) :
    xi_V (xG L0 xs) 70 0 [some (Value.ref 0)] [] yS1 0 0 Q :=
  have h1 : xi_V (xG L0 xs) 58 0 [some (Value.ref 1)] [] yS2 0 0 (fun r σ' => xi_V (xG L0 xs) 70 12 [some (Value.ref 0)] (r.toList ++ [Value.ref 1, Value.ref 0]) σ' 4 499 Q) := h
  xi_go 70 [(12, [])] 400 h1
def yS3 : xiS := ([(0, 8), (0, 6), (2, 480)], xi_u (xi_z (yS2.2.1) 2 0) 1 0 3, xi_z (yS2.2.2.1) 2 0, xi_z (yS2.2.2.2) 2 0)
set_option maxRecDepth 20000 in
theorem i_3 {L0 : Nat} {xs : Nat → Int32} {Q : xiQ} (h : xi_V (xG L0 xs) 58 13 [some (Value.ref 1)] [] yS3 1 480 Q) :
    xi_V (xG L0 xs) 58 0 [some (Value.ref 1)] [] yS2 0 0 Q :=
  have h1 : ¬ (480 : Int32) < 0 ∧ (xi_V (xG L0 xs) 58 13 [some (Value.ref 1)] [] yS3 1 480 Q) := ⟨by decide, h⟩
  xi_go 58 [(13, [])] 400 h1
def yS4 : xiS := ([(0, 8), (0, 6), (2, 480), (1, 8)], xi_u (xi_z (yS3.2.1) 3 0) 1 1 4, xi_z (yS3.2.2.1) 3 0, xi_z (yS3.2.2.2) 3 0)
set_option maxRecDepth 20000 in
theorem i_4 {L0 : Nat} {xs : Nat → Int32} {Q : xiQ} (h : xi_V (xG L0 xs) 58 21 [some (Value.ref 1)] [] yS4 2 488 Q) :
    xi_V (xG L0 xs) 58 13 [some (Value.ref 1)] [] yS3 1 480 Q :=
  have h1 : ¬ (8 : Int32) < 0 ∧ (xi_V (xG L0 xs) 58 21 [some (Value.ref 1)] [] yS4 2 488 Q) := ⟨by decide, h⟩
  xi_go 58 [(21, [])] 400 h1
def yS5 : xiS := ([(0, 8), (0, 6), (2, 480), (1, 8), (1, 8)], xi_u (xi_z (yS4.2.1) 4 0) 1 2 5, xi_z (yS4.2.2.1) 4 0, xi_z (yS4.2.2.2) 4 0)
set_option maxRecDepth 20000 in
theorem i_5 {L0 : Nat} {xs : Nat → Int32} {Q : xiQ} (h : xi_V (xG L0 xs) 58 29 [some (Value.ref 1)] [] yS5 3 496 Q) :
    xi_V (xG L0 xs) 58 21 [some (Value.ref 1)] [] yS4 2 488 Q :=
  have h1 : ¬ (8 : Int32) < 0 ∧ (xi_V (xG L0 xs) 58 29 [some (Value.ref 1)] [] yS5 3 496 Q) := ⟨by decide, h⟩
  xi_go 58 [(29, [])] 400 h1
set_option maxRecDepth 20000 in
theorem i_6 {L0 : Nat} {xs : Nat → Int32} {Q : xiQ} (h : xi_V (xG L0 xs) 7 0 [some (Value.ref 4), some (Value.int (-1 : Int32)), none, none] [] yS5 0 0 (fun r σ' => xi_V (xG L0 xs) 58 37 [some (Value.ref 1)] (r.toList ++ []) σ' 3 496 Q)) :
    xi_V (xG L0 xs) 58 29 [some (Value.ref 1)] [] yS5 3 496 Q :=
  have h1 : xi_V (xG L0 xs) 7 0 [some (Value.ref 4), some (Value.int (-1 : Int32)), none, none] [] yS5 0 0 (fun r σ' => xi_V (xG L0 xs) 58 37 [some (Value.ref 1)] (r.toList ++ []) σ' 3 496 Q) := h
  xi_go 58 [(37, [])] 400 h1
theorem i_7 {L0 : Nat} {xs : Nat → Int32} {Q : xiQ} (h : xi_V (xG L0 xs) 7 5 [some (Value.ref 4), some (Value.int (-1 : Int32)), some (Value.int (0 : Int32)), some (Value.int (8 : Int32))] [] yS5 0 0 Q) : xi_V (xG L0 xs) 7 0 [some (Value.ref 4), some (Value.int (-1 : Int32)), none, none] [] yS5 0 0 Q := xi_go 7 [(5, [])] 400 h
theorem i_fl {L0 : Nat} {xs : Nat → Int32} {Q : xiQ} {rf : Nat → Nat → Nat} {I : Nat → Nat → Int32} {L : Nat → Nat → Int64} {v2 v3 : Int32} (h : (v3 ≤ v2 → Q none ([(0, 8), (0, 6), (2, 480), (1, 8), (1, 8)], rf, I, L)) ∧ (¬ v3 ≤ v2 → vp_in v2 8 ∧ xi_V (xG L0 xs) 7 5 [some (Value.ref 4), some (Value.int (-1 : Int32)), some (Value.int (v2 + (1 : Int32))), some (Value.int v3)] [] ([(0, 8), (0, 6), (2, 480), (1, 8), (1, 8)], rf, xi_u I 4 v2.toNatClampNeg (-1), L) 0 0 Q)) :
    xi_V (xG L0 xs) 7 5 [some (Value.ref 4), some (Value.int (-1 : Int32)), some (Value.int v2), some (Value.int v3)] [] ([(0, 8), (0, 6), (2, 480), (1, 8), (1, 8)], rf, I, L) 0 0 Q := xi_go 7 [(5, [])] 400 h
def yS6 : xiS := ([(0, 8), (0, 6), (2, 480), (1, 8), (1, 8)], yS5.2.1, xi_u yS5.2.2.1 4 0 (-1 : Int32), yS5.2.2.2)
theorem i_8 {L0 : Nat} {xs : Nat → Int32} {Q : xiQ} (h : xi_V (xG L0 xs) 7 5 [some (Value.ref 4), some (Value.int (-1 : Int32)), some (Value.int (1 : Int32)), some (Value.int (8 : Int32))] [] yS6 0 0 Q) : xi_V (xG L0 xs) 7 5 [some (Value.ref 4), some (Value.int (-1 : Int32)), some (Value.int (0 : Int32)), some (Value.int (8 : Int32))] [] yS5 0 0 Q := i_fl (rf := yS5.2.1) (I := yS5.2.2.1) (L := yS5.2.2.2) ⟨fun c => absurd c (by decide), fun _ => ⟨by unfold vp_in; decide, h⟩⟩
def yS7 : xiS := ([(0, 8), (0, 6), (2, 480), (1, 8), (1, 8)], yS6.2.1, xi_u yS6.2.2.1 4 1 (-1 : Int32), yS6.2.2.2)
theorem i_9 {L0 : Nat} {xs : Nat → Int32} {Q : xiQ} (h : xi_V (xG L0 xs) 7 5 [some (Value.ref 4), some (Value.int (-1 : Int32)), some (Value.int (2 : Int32)), some (Value.int (8 : Int32))] [] yS7 0 0 Q) : xi_V (xG L0 xs) 7 5 [some (Value.ref 4), some (Value.int (-1 : Int32)), some (Value.int (1 : Int32)), some (Value.int (8 : Int32))] [] yS6 0 0 Q := i_fl (rf := yS6.2.1) (I := yS6.2.2.1) (L := yS6.2.2.2) ⟨fun c => absurd c (by decide), fun _ => ⟨by unfold vp_in; decide, h⟩⟩
def yS8 : xiS := ([(0, 8), (0, 6), (2, 480), (1, 8), (1, 8)], yS7.2.1, xi_u yS7.2.2.1 4 2 (-1 : Int32), yS7.2.2.2)
theorem i_10 {L0 : Nat} {xs : Nat → Int32} {Q : xiQ} (h : xi_V (xG L0 xs) 7 5 [some (Value.ref 4), some (Value.int (-1 : Int32)), some (Value.int (3 : Int32)), some (Value.int (8 : Int32))] [] yS8 0 0 Q) : xi_V (xG L0 xs) 7 5 [some (Value.ref 4), some (Value.int (-1 : Int32)), some (Value.int (2 : Int32)), some (Value.int (8 : Int32))] [] yS7 0 0 Q := i_fl (rf := yS7.2.1) (I := yS7.2.2.1) (L := yS7.2.2.2) ⟨fun c => absurd c (by decide), fun _ => ⟨by unfold vp_in; decide, h⟩⟩
def yS9 : xiS := ([(0, 8), (0, 6), (2, 480), (1, 8), (1, 8)], yS8.2.1, xi_u yS8.2.2.1 4 3 (-1 : Int32), yS8.2.2.2)
theorem i_11 {L0 : Nat} {xs : Nat → Int32} {Q : xiQ} (h : xi_V (xG L0 xs) 7 5 [some (Value.ref 4), some (Value.int (-1 : Int32)), some (Value.int (4 : Int32)), some (Value.int (8 : Int32))] [] yS9 0 0 Q) : xi_V (xG L0 xs) 7 5 [some (Value.ref 4), some (Value.int (-1 : Int32)), some (Value.int (3 : Int32)), some (Value.int (8 : Int32))] [] yS8 0 0 Q := i_fl (rf := yS8.2.1) (I := yS8.2.2.1) (L := yS8.2.2.2) ⟨fun c => absurd c (by decide), fun _ => ⟨by unfold vp_in; decide, h⟩⟩
def yS10 : xiS := ([(0, 8), (0, 6), (2, 480), (1, 8), (1, 8)], yS9.2.1, xi_u yS9.2.2.1 4 4 (-1 : Int32), yS9.2.2.2)
theorem i_12 {L0 : Nat} {xs : Nat → Int32} {Q : xiQ} (h : xi_V (xG L0 xs) 7 5 [some (Value.ref 4), some (Value.int (-1 : Int32)), some (Value.int (5 : Int32)), some (Value.int (8 : Int32))] [] yS10 0 0 Q) : xi_V (xG L0 xs) 7 5 [some (Value.ref 4), some (Value.int (-1 : Int32)), some (Value.int (4 : Int32)), some (Value.int (8 : Int32))] [] yS9 0 0 Q := i_fl (rf := yS9.2.1) (I := yS9.2.2.1) (L := yS9.2.2.2) ⟨fun c => absurd c (by decide), fun _ => ⟨by unfold vp_in; decide, h⟩⟩
def yS11 : xiS := ([(0, 8), (0, 6), (2, 480), (1, 8), (1, 8)], yS10.2.1, xi_u yS10.2.2.1 4 5 (-1 : Int32), yS10.2.2.2)
theorem i_13 {L0 : Nat} {xs : Nat → Int32} {Q : xiQ} (h : xi_V (xG L0 xs) 7 5 [some (Value.ref 4), some (Value.int (-1 : Int32)), some (Value.int (6 : Int32)), some (Value.int (8 : Int32))] [] yS11 0 0 Q) : xi_V (xG L0 xs) 7 5 [some (Value.ref 4), some (Value.int (-1 : Int32)), some (Value.int (5 : Int32)), some (Value.int (8 : Int32))] [] yS10 0 0 Q := i_fl (rf := yS10.2.1) (I := yS10.2.2.1) (L := yS10.2.2.2) ⟨fun c => absurd c (by decide), fun _ => ⟨by unfold vp_in; decide, h⟩⟩
def yS12 : xiS := ([(0, 8), (0, 6), (2, 480), (1, 8), (1, 8)], yS11.2.1, xi_u yS11.2.2.1 4 6 (-1 : Int32), yS11.2.2.2)
theorem i_14 {L0 : Nat} {xs : Nat → Int32} {Q : xiQ} (h : xi_V (xG L0 xs) 7 5 [some (Value.ref 4), some (Value.int (-1 : Int32)), some (Value.int (7 : Int32)), some (Value.int (8 : Int32))] [] yS12 0 0 Q) : xi_V (xG L0 xs) 7 5 [some (Value.ref 4), some (Value.int (-1 : Int32)), some (Value.int (6 : Int32)), some (Value.int (8 : Int32))] [] yS11 0 0 Q := i_fl (rf := yS11.2.1) (I := yS11.2.2.1) (L := yS11.2.2.2) ⟨fun c => absurd c (by decide), fun _ => ⟨by unfold vp_in; decide, h⟩⟩
def yS13 : xiS := ([(0, 8), (0, 6), (2, 480), (1, 8), (1, 8)], yS12.2.1, xi_u yS12.2.2.1 4 7 (-1 : Int32), yS12.2.2.2)
theorem i_15 {L0 : Nat} {xs : Nat → Int32} {Q : xiQ} (h : xi_V (xG L0 xs) 7 5 [some (Value.ref 4), some (Value.int (-1 : Int32)), some (Value.int (8 : Int32)), some (Value.int (8 : Int32))] [] yS13 0 0 Q) : xi_V (xG L0 xs) 7 5 [some (Value.ref 4), some (Value.int (-1 : Int32)), some (Value.int (7 : Int32)), some (Value.int (8 : Int32))] [] yS12 0 0 Q := i_fl (rf := yS12.2.1) (I := yS12.2.2.1) (L := yS12.2.2.2) ⟨fun c => absurd c (by decide), fun _ => ⟨by unfold vp_in; decide, h⟩⟩
theorem i_16 {L0 : Nat} {xs : Nat → Int32} {Q : xiQ} (h : Q none yS13) : xi_V (xG L0 xs) 7 5 [some (Value.ref 4), some (Value.int (-1 : Int32)), some (Value.int (8 : Int32)), some (Value.int (8 : Int32))] [] yS13 0 0 Q := i_fl (rf := yS13.2.1) (I := yS13.2.2.1) (L := yS13.2.2.2) ⟨fun _ => h, fun c => absurd (by decide) c⟩
set_option maxRecDepth 20000 in
theorem i_17 {L0 : Nat} {xs : Nat → Int32} {Q : xiQ} (h : Q none yS13) :
    xi_V (xG L0 xs) 58 37 [some (Value.ref 1)] [] yS13 3 496 Q :=
  have h1 : Q none yS13 := h
  xi_go 58 [] 400 h1
def yS14 : xiS := ([(0, 8), (0, 6), (2, 480), (1, 8), (1, 8)], xi_u (yS13.2.1) 0 0 2, yS13.2.2.1, yS13.2.2.2)
set_option maxRecDepth 20000 in
theorem i_18 {L0 : Nat} {xs : Nat → Int32} {Q : xiQ} (h : xi_V (xG L0 xs) 70 15 [some (Value.ref 0)] [] yS14 4 499 Q) :
    xi_V (xG L0 xs) 70 12 [some (Value.ref 0)] [Value.ref 1, Value.ref 0] yS13 4 499 Q :=
  have h1 : xi_V (xG L0 xs) 70 15 [some (Value.ref 0)] [] yS14 4 499 Q := h
  xi_go 70 [(15, [])] 400 h1
def yS15 : xiS := ([(0, 8), (0, 6), (2, 480), (1, 8), (1, 8), (0, 1)], xi_z (yS14.2.1) 5 0, xi_z (yS14.2.2.1) 5 0, xi_z (yS14.2.2.2) 5 0)
set_option maxRecDepth 20000 in
theorem i_19 {L0 : Nat} {xs : Nat → Int32} {Q : xiQ} (h : xi_V (xG L0 xs) 16 0 [some (Value.ref 5)] [] yS15 0 0 (fun r σ' => xi_V (xG L0 xs) 70 23 [some (Value.ref 0)] (r.toList ++ [Value.ref 5, Value.ref 0]) σ' 9 538 Q)) :
    xi_V (xG L0 xs) 70 15 [some (Value.ref 0)] [] yS14 4 499 Q :=
  have h1 : xi_V (xG L0 xs) 16 0 [some (Value.ref 5)] [] yS15 0 0 (fun r σ' => xi_V (xG L0 xs) 70 23 [some (Value.ref 0)] (r.toList ++ [Value.ref 5, Value.ref 0]) σ' 9 538 Q) := h
  xi_go 70 [(23, [])] 400 h1
def yS16 : xiS := ([(0, 8), (0, 6), (2, 480), (1, 8), (1, 8), (0, 1), (1, 10)], xi_u (xi_z (yS15.2.1) 6 0) 5 1 7, xi_z (yS15.2.2.1) 6 0, xi_z (yS15.2.2.2) 6 0)
set_option maxRecDepth 20000 in
theorem i_20 {L0 : Nat} {xs : Nat → Int32} {Q : xiQ} (h : xi_V (xG L0 xs) 16 12 [some (Value.ref 5)] [] yS16 1 10 Q) :
    xi_V (xG L0 xs) 16 0 [some (Value.ref 5)] [] yS15 0 0 Q :=
  have h1 : ¬ (10 : Int32) < 0 ∧ (xi_V (xG L0 xs) 16 12 [some (Value.ref 5)] [] yS16 1 10 Q) := ⟨by decide, h⟩
  xi_go 16 [(12, [])] 400 h1
def yS17 : xiS := ([(0, 8), (0, 6), (2, 480), (1, 8), (1, 8), (0, 1), (1, 10), (1, 10)], xi_u (xi_z (yS16.2.1) 7 0) 5 2 8, xi_z (yS16.2.2.1) 7 0, xi_z (yS16.2.2.2) 7 0)
set_option maxRecDepth 20000 in
theorem i_21 {L0 : Nat} {xs : Nat → Int32} {Q : xiQ} (h : xi_V (xG L0 xs) 16 20 [some (Value.ref 5)] [] yS17 2 20 Q) :
    xi_V (xG L0 xs) 16 12 [some (Value.ref 5)] [] yS16 1 10 Q :=
  have h1 : ¬ (10 : Int32) < 0 ∧ (xi_V (xG L0 xs) 16 20 [some (Value.ref 5)] [] yS17 2 20 Q) := ⟨by decide, h⟩
  xi_go 16 [(20, [])] 400 h1
def yS18 : xiS := ([(0, 8), (0, 6), (2, 480), (1, 8), (1, 8), (0, 1), (1, 10), (1, 10), (1, 10)], xi_u (xi_z (yS17.2.1) 8 0) 5 3 9, xi_z (yS17.2.2.1) 8 0, xi_z (yS17.2.2.2) 8 0)
set_option maxRecDepth 20000 in
theorem i_22 {L0 : Nat} {xs : Nat → Int32} {Q : xiQ} (h : xi_V (xG L0 xs) 16 28 [some (Value.ref 5)] [] yS18 3 30 Q) :
    xi_V (xG L0 xs) 16 20 [some (Value.ref 5)] [] yS17 2 20 Q :=
  have h1 : ¬ (10 : Int32) < 0 ∧ (xi_V (xG L0 xs) 16 28 [some (Value.ref 5)] [] yS18 3 30 Q) := ⟨by decide, h⟩
  xi_go 16 [(28, [])] 400 h1
def yS19 : xiS := ([(0, 8), (0, 6), (2, 480), (1, 8), (1, 8), (0, 1), (1, 10), (1, 10), (1, 10), (1, 4)], xi_u (xi_z (yS18.2.1) 9 0) 5 4 10, xi_z (yS18.2.2.1) 9 0, xi_z (yS18.2.2.2) 9 0)
set_option maxRecDepth 20000 in
theorem i_23 {L0 : Nat} {xs : Nat → Int32} {Q : xiQ} (h : xi_V (xG L0 xs) 16 35 [some (Value.ref 5)] [] yS19 4 34 Q) :
    xi_V (xG L0 xs) 16 28 [some (Value.ref 5)] [] yS18 3 30 Q :=
  have h1 : ¬ (4 : Int32) < 0 ∧ (xi_V (xG L0 xs) 16 35 [some (Value.ref 5)] [] yS19 4 34 Q) := ⟨by decide, h⟩
  xi_go 16 [(35, [])] 400 h1
def yS20 : xiS := ([(0, 8), (0, 6), (2, 480), (1, 8), (1, 8), (0, 1), (1, 10), (1, 10), (1, 10), (1, 4)], yS19.2.1, xi_u (yS19.2.2.1) 5 0 (1 : Int32), yS19.2.2.2)
set_option maxRecDepth 20000 in
theorem i_24 {L0 : Nat} {xs : Nat → Int32} {Q : xiQ} (h : xi_V (xG L0 xs) 16 40 [some (Value.ref 5)] [] yS20 4 34 Q) :
    xi_V (xG L0 xs) 16 35 [some (Value.ref 5)] [] yS19 4 34 Q :=
  have h1 : xi_V (xG L0 xs) 16 40 [some (Value.ref 5)] [] yS20 4 34 Q := h
  xi_go 16 [(40, [])] 400 h1
def yS21 : xiS := ([(0, 8), (0, 6), (2, 480), (1, 8), (1, 8), (0, 1), (1, 10), (1, 10), (1, 10), (1, 4)], yS20.2.1, xi_u (yS20.2.2.1) 7 0 (1 : Int32), yS20.2.2.2)
set_option maxRecDepth 20000 in
theorem i_25 {L0 : Nat} {xs : Nat → Int32} {Q : xiQ} (h : xi_V (xG L0 xs) 16 47 [some (Value.ref 5)] [] yS21 4 34 Q) :
    xi_V (xG L0 xs) 16 40 [some (Value.ref 5)] [] yS20 4 34 Q :=
  have h1 : vp_in (0 : Int32) 10 ∧ (xi_V (xG L0 xs) 16 47 [some (Value.ref 5)] [] yS21 4 34 Q) := ⟨by unfold vp_in; decide, h⟩
  xi_go 16 [(47, [])] 400 h1
def yS22 : xiS := ([(0, 8), (0, 6), (2, 480), (1, 8), (1, 8), (0, 1), (1, 10), (1, 10), (1, 10), (1, 4)], yS21.2.1, xi_u (yS21.2.2.1) 9 0 (1 : Int32), yS21.2.2.2)
set_option maxRecDepth 20000 in
theorem i_26 {L0 : Nat} {xs : Nat → Int32} {Q : xiQ} (h : Q none yS22) :
    xi_V (xG L0 xs) 16 47 [some (Value.ref 5)] [] yS21 4 34 Q :=
  have h1 : vp_in (0 : Int32) 4 ∧ (Q none yS22) := ⟨by unfold vp_in; decide, h⟩
  xi_go 16 [] 400 h1
def yS23 : xiS := ([(0, 8), (0, 6), (2, 480), (1, 8), (1, 8), (0, 1), (1, 10), (1, 10), (1, 10), (1, 4)], xi_u (yS22.2.1) 0 1 6, yS22.2.2.1, yS22.2.2.2)
set_option maxRecDepth 20000 in
theorem i_27 {L0 : Nat} {xs : Nat → Int32} {Q : xiQ} (h : xi_V (xG L0 xs) 70 26 [some (Value.ref 0)] [] yS23 9 538 Q) :
    xi_V (xG L0 xs) 70 23 [some (Value.ref 0)] [Value.ref 5, Value.ref 0] yS22 9 538 Q :=
  have h1 : xi_V (xG L0 xs) 70 26 [some (Value.ref 0)] [] yS23 9 538 Q := h
  xi_go 70 [(26, [])] 400 h1
def yS24 : xiS := ([(0, 8), (0, 6), (2, 480), (1, 8), (1, 8), (0, 1), (1, 10), (1, 10), (1, 10), (1, 4), (0, 4)], xi_z (yS23.2.1) 10 0, xi_z (yS23.2.2.1) 10 0, xi_z (yS23.2.2.2) 10 0)
set_option maxRecDepth 20000 in
theorem i_28 {L0 : Nat} {xs : Nat → Int32} {Q : xiQ} (h : xi_V (xG L0 xs) 37 0 [some (Value.ref 10)] [] yS24 0 0 (fun r σ' => xi_V (xG L0 xs) 70 34 [some (Value.ref 0)] (r.toList ++ [Value.ref 10, Value.ref 0]) σ' 13 1673 Q)) :
    xi_V (xG L0 xs) 70 26 [some (Value.ref 0)] [] yS23 9 538 Q :=
  have h1 : xi_V (xG L0 xs) 37 0 [some (Value.ref 10)] [] yS24 0 0 (fun r σ' => xi_V (xG L0 xs) 70 34 [some (Value.ref 0)] (r.toList ++ [Value.ref 10, Value.ref 0]) σ' 13 1673 Q) := h
  xi_go 70 [(34, [])] 400 h1
def yS25 : xiS := ([(0, 8), (0, 6), (2, 480), (1, 8), (1, 8), (0, 1), (1, 10), (1, 10), (1, 10), (1, 4), (0, 4)], yS24.2.1, xi_u (yS24.2.2.1) 10 0 (0 : Int32), yS24.2.2.2)
set_option maxRecDepth 20000 in
theorem i_29 {L0 : Nat} {xs : Nat → Int32} {Q : xiQ} (h : xi_V (xG L0 xs) 37 9 [some (Value.ref 10)] [] yS25 0 0 Q) :
    xi_V (xG L0 xs) 37 0 [some (Value.ref 10)] [] yS24 0 0 Q :=
  have h1 : xi_V (xG L0 xs) 37 9 [some (Value.ref 10)] [] yS25 0 0 Q := h
  xi_go 37 [(9, [])] 400 h1
def yS26 : xiS := ([(0, 8), (0, 6), (2, 480), (1, 8), (1, 8), (0, 1), (1, 10), (1, 10), (1, 10), (1, 4), (0, 4)], yS25.2.1, xi_u (yS25.2.2.1) 10 1 (1 : Int32), yS25.2.2.2)
set_option maxRecDepth 20000 in
theorem i_30 {L0 : Nat} {xs : Nat → Int32} {Q : xiQ} (h : xi_V (xG L0 xs) 37 14 [some (Value.ref 10)] [] yS26 0 0 Q) :
    xi_V (xG L0 xs) 37 9 [some (Value.ref 10)] [] yS25 0 0 Q :=
  have h1 : xi_V (xG L0 xs) 37 14 [some (Value.ref 10)] [] yS26 0 0 Q := h
  xi_go 37 [(14, [])] 400 h1
def yS27 : xiS := ([(0, 8), (0, 6), (2, 480), (1, 8), (1, 8), (0, 1), (1, 10), (1, 10), (1, 10), (1, 4), (0, 4), (1, 4)], xi_u (xi_z (yS26.2.1) 11 0) 10 2 12, xi_z (yS26.2.2.1) 11 0, xi_z (yS26.2.2.2) 11 0)
set_option maxRecDepth 20000 in
theorem i_31 {L0 : Nat} {xs : Nat → Int32} {Q : xiQ} (h : xi_V (xG L0 xs) 37 21 [some (Value.ref 10)] [] yS27 1 4 Q) :
    xi_V (xG L0 xs) 37 14 [some (Value.ref 10)] [] yS26 0 0 Q :=
  have h1 : ¬ (4 : Int32) < 0 ∧ (xi_V (xG L0 xs) 37 21 [some (Value.ref 10)] [] yS27 1 4 Q) := ⟨by decide, h⟩
  xi_go 37 [(21, [])] 400 h1
def yS28 : xiS := ([(0, 8), (0, 6), (2, 480), (1, 8), (1, 8), (0, 1), (1, 10), (1, 10), (1, 10), (1, 4), (0, 4), (1, 4)], yS27.2.1, xi_u (yS27.2.2.1) 10 3 (1 : Int32), yS27.2.2.2)
set_option maxRecDepth 20000 in
theorem i_32 {L0 : Nat} {xs : Nat → Int32} {Q : xiQ} (h : xi_V (xG L0 xs) 37 26 [some (Value.ref 10)] [] yS28 1 4 Q) :
    xi_V (xG L0 xs) 37 21 [some (Value.ref 10)] [] yS27 1 4 Q :=
  have h1 : ((1 : Int32) = 0 ∨ (1 : Int32) = 1) ∧ (xi_V (xG L0 xs) 37 26 [some (Value.ref 10)] [] yS28 1 4 Q) := ⟨by decide, h⟩
  xi_go 37 [(26, [])] 400 h1
def yS29 : xiS := ([(0, 8), (0, 6), (2, 480), (1, 8), (1, 8), (0, 1), (1, 10), (1, 10), (1, 10), (1, 4), (0, 4), (1, 4), (2, 1024)], xi_u (xi_z (yS28.2.1) 12 0) 10 4 13, xi_z (yS28.2.2.1) 12 0, xi_z (yS28.2.2.2) 12 0)
set_option maxRecDepth 20000 in
theorem i_33 {L0 : Nat} {xs : Nat → Int32} {Q : xiQ} (h : xi_V (xG L0 xs) 37 35 [some (Value.ref 10)] [] yS29 2 1028 Q) :
    xi_V (xG L0 xs) 37 26 [some (Value.ref 10)] [] yS28 1 4 Q :=
  have h1 : ¬ (1024 : Int32) < 0 ∧ (xi_V (xG L0 xs) 37 35 [some (Value.ref 10)] [] yS29 2 1028 Q) := ⟨by decide, h⟩
  xi_go 37 [(35, [])] 400 h1
def yS30 : xiS := ([(0, 8), (0, 6), (2, 480), (1, 8), (1, 8), (0, 1), (1, 10), (1, 10), (1, 10), (1, 4), (0, 4), (1, 4), (2, 1024), (2, 100)], xi_u (xi_z (yS29.2.1) 13 0) 10 5 14, xi_z (yS29.2.2.1) 13 0, xi_z (yS29.2.2.2) 13 0)
set_option maxRecDepth 20000 in
theorem i_34 {L0 : Nat} {xs : Nat → Int32} {Q : xiQ} (h : xi_V (xG L0 xs) 37 43 [some (Value.ref 10)] [] yS30 3 1128 Q) :
    xi_V (xG L0 xs) 37 35 [some (Value.ref 10)] [] yS29 2 1028 Q :=
  have h1 : ¬ (100 : Int32) < 0 ∧ (xi_V (xG L0 xs) 37 43 [some (Value.ref 10)] [] yS30 3 1128 Q) := ⟨by decide, h⟩
  xi_go 37 [(43, [])] 400 h1
def yS31 : xiS := ([(0, 8), (0, 6), (2, 480), (1, 8), (1, 8), (0, 1), (1, 10), (1, 10), (1, 10), (1, 4), (0, 4), (1, 4), (2, 1024), (2, 100)], yS30.2.1, yS30.2.2.1, xi_u (yS30.2.2.2) 10 6 (1 : Int64))
set_option maxRecDepth 20000 in
theorem i_35 {L0 : Nat} {xs : Nat → Int32} {Q : xiQ} (h : Q none yS31) :
    xi_V (xG L0 xs) 37 43 [some (Value.ref 10)] [] yS30 3 1128 Q :=
  have h1 : Q none yS31 := h
  xi_go 37 [] 400 h1
def yS32 : xiS := ([(0, 8), (0, 6), (2, 480), (1, 8), (1, 8), (0, 1), (1, 10), (1, 10), (1, 10), (1, 4), (0, 4), (1, 4), (2, 1024), (2, 100)], xi_u (yS31.2.1) 0 2 11, yS31.2.2.1, yS31.2.2.2)
set_option maxRecDepth 20000 in
theorem i_36 {L0 : Nat} {xs : Nat → Int32} {Q : xiQ} (h : xi_V (xG L0 xs) 70 37 [some (Value.ref 0)] [] yS32 13 1673 Q) :
    xi_V (xG L0 xs) 70 34 [some (Value.ref 0)] [Value.ref 10, Value.ref 0] yS31 13 1673 Q :=
  have h1 : xi_V (xG L0 xs) 70 37 [some (Value.ref 0)] [] yS32 13 1673 Q := h
  xi_go 70 [(37, [])] 400 h1
def yS33 : xiS := ([(0, 8), (0, 6), (2, 480), (1, 8), (1, 8), (0, 1), (1, 10), (1, 10), (1, 10), (1, 4), (0, 4), (1, 4), (2, 1024), (2, 100), (0, 3)], xi_z (yS32.2.1) 14 0, xi_z (yS32.2.2.1) 14 0, xi_z (yS32.2.2.2) 14 0)
set_option maxRecDepth 20000 in
theorem i_37 {L0 : Nat} {xs : Nat → Int32} {Q : xiQ} (h : xi_V (xG L0 xs) 32 0 [some (Value.ref 14)] [] yS33 0 0 (fun r σ' => xi_V (xG L0 xs) 70 45 [some (Value.ref 0)] (r.toList ++ [Value.ref 14, Value.ref 0]) σ' 20 1740 Q)) :
    xi_V (xG L0 xs) 70 37 [some (Value.ref 0)] [] yS32 13 1673 Q :=
  have h1 : xi_V (xG L0 xs) 32 0 [some (Value.ref 14)] [] yS33 0 0 (fun r σ' => xi_V (xG L0 xs) 70 45 [some (Value.ref 0)] (r.toList ++ [Value.ref 14, Value.ref 0]) σ' 20 1740 Q) := h
  xi_go 70 [(45, [])] 400 h1
def yS34 : xiS := ([(0, 8), (0, 6), (2, 480), (1, 8), (1, 8), (0, 1), (1, 10), (1, 10), (1, 10), (1, 4), (0, 4), (1, 4), (2, 1024), (2, 100), (0, 3), (0, 0)], xi_z (yS33.2.1) 15 0, xi_z (yS33.2.2.1) 15 0, xi_z (yS33.2.2.2) 15 0)
set_option maxRecDepth 20000 in
theorem i_38 {L0 : Nat} {xs : Nat → Int32} {Q : xiQ} (h : xi_V (xG L0 xs) 8 0 [some (Value.ref 15)] [] yS34 0 0 (fun r σ' => xi_V (xG L0 xs) 32 12 [some (Value.ref 14)] (r.toList ++ [Value.ref 15, Value.ref 14]) σ' 2 21 Q)) :
    xi_V (xG L0 xs) 32 0 [some (Value.ref 14)] [] yS33 0 0 Q :=
  have h1 : xi_V (xG L0 xs) 8 0 [some (Value.ref 15)] [] yS34 0 0 (fun r σ' => xi_V (xG L0 xs) 32 12 [some (Value.ref 14)] (r.toList ++ [Value.ref 15, Value.ref 14]) σ' 2 21 Q) := h
  xi_go 32 [(12, [])] 400 h1
def yS35 : xiS := ([(0, 8), (0, 6), (2, 480), (1, 8), (1, 8), (0, 1), (1, 10), (1, 10), (1, 10), (1, 4), (0, 4), (1, 4), (2, 1024), (2, 100), (0, 3), (0, 0), (2, 20)], xi_u (xi_z (yS34.2.1) 16 0) 15 0 17, xi_z (yS34.2.2.1) 16 0, xi_z (yS34.2.2.2) 16 0)
set_option maxRecDepth 20000 in
theorem i_39 {L0 : Nat} {xs : Nat → Int32} {Q : xiQ} (h : Q none yS35) :
    xi_V (xG L0 xs) 8 0 [some (Value.ref 15)] [] yS34 0 0 Q :=
  have h1 : ¬ (20 : Int32) < 0 ∧ (Q none yS35) := ⟨by decide, h⟩
  xi_go 8 [] 400 h1
def yS36 : xiS := ([(0, 8), (0, 6), (2, 480), (1, 8), (1, 8), (0, 1), (1, 10), (1, 10), (1, 10), (1, 4), (0, 4), (1, 4), (2, 1024), (2, 100), (0, 3), (0, 0), (2, 20)], xi_u (yS35.2.1) 14 1 16, yS35.2.2.1, yS35.2.2.2)
set_option maxRecDepth 20000 in
theorem i_40 {L0 : Nat} {xs : Nat → Int32} {Q : xiQ} (h : xi_V (xG L0 xs) 32 15 [some (Value.ref 14)] [] yS36 2 21 Q) :
    xi_V (xG L0 xs) 32 12 [some (Value.ref 14)] [Value.ref 15, Value.ref 14] yS35 2 21 Q :=
  have h1 : xi_V (xG L0 xs) 32 15 [some (Value.ref 14)] [] yS36 2 21 Q := h
  xi_go 32 [(15, [])] 400 h1
def yS37 : xiS := ([(0, 8), (0, 6), (2, 480), (1, 8), (1, 8), (0, 1), (1, 10), (1, 10), (1, 10), (1, 4), (0, 4), (1, 4), (2, 1024), (2, 100), (0, 3), (0, 0), (2, 20), (0, 0)], xi_z (yS36.2.1) 17 0, xi_z (yS36.2.2.1) 17 0, xi_z (yS36.2.2.2) 17 0)
set_option maxRecDepth 20000 in
theorem i_41 {L0 : Nat} {xs : Nat → Int32} {Q : xiQ} (h : xi_V (xG L0 xs) 8 0 [some (Value.ref 17)] [] yS37 0 0 (fun r σ' => xi_V (xG L0 xs) 32 23 [some (Value.ref 14)] (r.toList ++ [Value.ref 17, Value.ref 14]) σ' 4 42 Q)) :
    xi_V (xG L0 xs) 32 15 [some (Value.ref 14)] [] yS36 2 21 Q :=
  have h1 : xi_V (xG L0 xs) 8 0 [some (Value.ref 17)] [] yS37 0 0 (fun r σ' => xi_V (xG L0 xs) 32 23 [some (Value.ref 14)] (r.toList ++ [Value.ref 17, Value.ref 14]) σ' 4 42 Q) := h
  xi_go 32 [(23, [])] 400 h1
def yS38 : xiS := ([(0, 8), (0, 6), (2, 480), (1, 8), (1, 8), (0, 1), (1, 10), (1, 10), (1, 10), (1, 4), (0, 4), (1, 4), (2, 1024), (2, 100), (0, 3), (0, 0), (2, 20), (0, 0), (2, 20)], xi_u (xi_z (yS37.2.1) 18 0) 17 0 19, xi_z (yS37.2.2.1) 18 0, xi_z (yS37.2.2.2) 18 0)
set_option maxRecDepth 20000 in
theorem i_42 {L0 : Nat} {xs : Nat → Int32} {Q : xiQ} (h : Q none yS38) :
    xi_V (xG L0 xs) 8 0 [some (Value.ref 17)] [] yS37 0 0 Q :=
  have h1 : ¬ (20 : Int32) < 0 ∧ (Q none yS38) := ⟨by decide, h⟩
  xi_go 8 [] 400 h1
def yS39 : xiS := ([(0, 8), (0, 6), (2, 480), (1, 8), (1, 8), (0, 1), (1, 10), (1, 10), (1, 10), (1, 4), (0, 4), (1, 4), (2, 1024), (2, 100), (0, 3), (0, 0), (2, 20), (0, 0), (2, 20)], xi_u (yS38.2.1) 14 2 18, yS38.2.2.1, yS38.2.2.2)
set_option maxRecDepth 20000 in
theorem i_43 {L0 : Nat} {xs : Nat → Int32} {Q : xiQ} (h : xi_V (xG L0 xs) 32 26 [some (Value.ref 14)] [] yS39 4 42 Q) :
    xi_V (xG L0 xs) 32 23 [some (Value.ref 14)] [Value.ref 17, Value.ref 14] yS38 4 42 Q :=
  have h1 : xi_V (xG L0 xs) 32 26 [some (Value.ref 14)] [] yS39 4 42 Q := h
  xi_go 32 [(26, [])] 400 h1
def yS40 : xiS := ([(0, 8), (0, 6), (2, 480), (1, 8), (1, 8), (0, 1), (1, 10), (1, 10), (1, 10), (1, 4), (0, 4), (1, 4), (2, 1024), (2, 100), (0, 3), (0, 0), (2, 20), (0, 0), (2, 20), (0, 0)], xi_z (yS39.2.1) 19 0, xi_z (yS39.2.2.1) 19 0, xi_z (yS39.2.2.2) 19 0)
set_option maxRecDepth 20000 in
theorem i_44 {L0 : Nat} {xs : Nat → Int32} {Q : xiQ} (h : xi_V (xG L0 xs) 8 0 [some (Value.ref 19)] [] yS40 0 0 (fun r σ' => xi_V (xG L0 xs) 32 34 [some (Value.ref 14)] (r.toList ++ [Value.ref 19, Value.ref 14]) σ' 6 63 Q)) :
    xi_V (xG L0 xs) 32 26 [some (Value.ref 14)] [] yS39 4 42 Q :=
  have h1 : xi_V (xG L0 xs) 8 0 [some (Value.ref 19)] [] yS40 0 0 (fun r σ' => xi_V (xG L0 xs) 32 34 [some (Value.ref 14)] (r.toList ++ [Value.ref 19, Value.ref 14]) σ' 6 63 Q) := h
  xi_go 32 [(34, [])] 400 h1
def yS41 : xiS := ([(0, 8), (0, 6), (2, 480), (1, 8), (1, 8), (0, 1), (1, 10), (1, 10), (1, 10), (1, 4), (0, 4), (1, 4), (2, 1024), (2, 100), (0, 3), (0, 0), (2, 20), (0, 0), (2, 20), (0, 0), (2, 20)], xi_u (xi_z (yS40.2.1) 20 0) 19 0 21, xi_z (yS40.2.2.1) 20 0, xi_z (yS40.2.2.2) 20 0)
set_option maxRecDepth 20000 in
theorem i_45 {L0 : Nat} {xs : Nat → Int32} {Q : xiQ} (h : Q none yS41) :
    xi_V (xG L0 xs) 8 0 [some (Value.ref 19)] [] yS40 0 0 Q :=
  have h1 : ¬ (20 : Int32) < 0 ∧ (Q none yS41) := ⟨by decide, h⟩
  xi_go 8 [] 400 h1
def yS42 : xiS := ([(0, 8), (0, 6), (2, 480), (1, 8), (1, 8), (0, 1), (1, 10), (1, 10), (1, 10), (1, 4), (0, 4), (1, 4), (2, 1024), (2, 100), (0, 3), (0, 0), (2, 20), (0, 0), (2, 20), (0, 0), (2, 20)], xi_u (yS41.2.1) 14 3 20, yS41.2.2.1, yS41.2.2.2)
set_option maxRecDepth 20000 in
theorem i_46 {L0 : Nat} {xs : Nat → Int32} {Q : xiQ} (h : xi_V (xG L0 xs) 32 37 [some (Value.ref 14)] [] yS42 6 63 Q) :
    xi_V (xG L0 xs) 32 34 [some (Value.ref 14)] [Value.ref 19, Value.ref 14] yS41 6 63 Q :=
  have h1 : xi_V (xG L0 xs) 32 37 [some (Value.ref 14)] [] yS42 6 63 Q := h
  xi_go 32 [(37, [])] 400 h1
def yS43 : xiS := ([(0, 8), (0, 6), (2, 480), (1, 8), (1, 8), (0, 1), (1, 10), (1, 10), (1, 10), (1, 4), (0, 4), (1, 4), (2, 1024), (2, 100), (0, 3), (0, 0), (2, 20), (0, 0), (2, 20), (0, 0), (2, 20)], yS42.2.1, yS42.2.2.1, xi_u (yS42.2.2.2) 18 0 (1 : Int64))
set_option maxRecDepth 20000 in
theorem i_47 {L0 : Nat} {xs : Nat → Int32} {Q : xiQ} (h : Q none yS43) :
    xi_V (xG L0 xs) 32 37 [some (Value.ref 14)] [] yS42 6 63 Q :=
  have h1 : vp_in (0 : Int32) 20 ∧ (Q none yS43) := ⟨by unfold vp_in; decide, h⟩
  xi_go 32 [] 400 h1
def yS44 : xiS := ([(0, 8), (0, 6), (2, 480), (1, 8), (1, 8), (0, 1), (1, 10), (1, 10), (1, 10), (1, 4), (0, 4), (1, 4), (2, 1024), (2, 100), (0, 3), (0, 0), (2, 20), (0, 0), (2, 20), (0, 0), (2, 20)], xi_u (yS43.2.1) 0 3 15, yS43.2.2.1, yS43.2.2.2)
set_option maxRecDepth 20000 in
theorem i_48 {L0 : Nat} {xs : Nat → Int32} {Q : xiQ} (h : xi_V (xG L0 xs) 70 48 [some (Value.ref 0)] [] yS44 20 1740 Q) :
    xi_V (xG L0 xs) 70 45 [some (Value.ref 0)] [Value.ref 14, Value.ref 0] yS43 20 1740 Q :=
  have h1 : xi_V (xG L0 xs) 70 48 [some (Value.ref 0)] [] yS44 20 1740 Q := h
  xi_go 70 [(48, [])] 400 h1
def yS45 : xiS := ([(0, 8), (0, 6), (2, 480), (1, 8), (1, 8), (0, 1), (1, 10), (1, 10), (1, 10), (1, 4), (0, 4), (1, 4), (2, 1024), (2, 100), (0, 3), (0, 0), (2, 20), (0, 0), (2, 20), (0, 0), (2, 20), (0, 7)], xi_z (yS44.2.1) 21 0, xi_z (yS44.2.2.1) 21 0, xi_z (yS44.2.2.2) 21 0)
set_option maxRecDepth 20000 in
theorem i_49 {L0 : Nat} {xs : Nat → Int32} {Q : xiQ} (h : xi_V (xG L0 xs) 67 0 [some (Value.ref 21)] [] yS45 0 0 (fun r σ' => xi_V (xG L0 xs) 70 56 [some (Value.ref 0)] (r.toList ++ [Value.ref 21, Value.ref 0]) σ' 25 1784 Q)) :
    xi_V (xG L0 xs) 70 48 [some (Value.ref 0)] [] yS44 20 1740 Q :=
  have h1 : xi_V (xG L0 xs) 67 0 [some (Value.ref 21)] [] yS45 0 0 (fun r σ' => xi_V (xG L0 xs) 70 56 [some (Value.ref 0)] (r.toList ++ [Value.ref 21, Value.ref 0]) σ' 25 1784 Q) := h
  xi_go 70 [(56, [])] 400 h1
def yS46 : xiS := ([(0, 8), (0, 6), (2, 480), (1, 8), (1, 8), (0, 1), (1, 10), (1, 10), (1, 10), (1, 4), (0, 4), (1, 4), (2, 1024), (2, 100), (0, 3), (0, 0), (2, 20), (0, 0), (2, 20), (0, 0), (2, 20), (0, 7), (0, 0)], xi_z (yS45.2.1) 22 0, xi_z (yS45.2.2.1) 22 0, xi_z (yS45.2.2.2) 22 0)
set_option maxRecDepth 20000 in
theorem i_50 {L0 : Nat} {xs : Nat → Int32} {Q : xiQ} (h : xi_V (xG L0 xs) 8 0 [some (Value.ref 22)] [] yS46 0 0 (fun r σ' => xi_V (xG L0 xs) 67 12 [some (Value.ref 21)] (r.toList ++ [Value.ref 22, Value.ref 21]) σ' 2 21 Q)) :
    xi_V (xG L0 xs) 67 0 [some (Value.ref 21)] [] yS45 0 0 Q :=
  have h1 : xi_V (xG L0 xs) 8 0 [some (Value.ref 22)] [] yS46 0 0 (fun r σ' => xi_V (xG L0 xs) 67 12 [some (Value.ref 21)] (r.toList ++ [Value.ref 22, Value.ref 21]) σ' 2 21 Q) := h
  xi_go 67 [(12, [])] 400 h1
def yS47 : xiS := ([(0, 8), (0, 6), (2, 480), (1, 8), (1, 8), (0, 1), (1, 10), (1, 10), (1, 10), (1, 4), (0, 4), (1, 4), (2, 1024), (2, 100), (0, 3), (0, 0), (2, 20), (0, 0), (2, 20), (0, 0), (2, 20), (0, 7), (0, 0), (2, 20)], xi_u (xi_z (yS46.2.1) 23 0) 22 0 24, xi_z (yS46.2.2.1) 23 0, xi_z (yS46.2.2.2) 23 0)
set_option maxRecDepth 20000 in
theorem i_51 {L0 : Nat} {xs : Nat → Int32} {Q : xiQ} (h : Q none yS47) :
    xi_V (xG L0 xs) 8 0 [some (Value.ref 22)] [] yS46 0 0 Q :=
  have h1 : ¬ (20 : Int32) < 0 ∧ (Q none yS47) := ⟨by decide, h⟩
  xi_go 8 [] 400 h1
def yS48 : xiS := ([(0, 8), (0, 6), (2, 480), (1, 8), (1, 8), (0, 1), (1, 10), (1, 10), (1, 10), (1, 4), (0, 4), (1, 4), (2, 1024), (2, 100), (0, 3), (0, 0), (2, 20), (0, 0), (2, 20), (0, 0), (2, 20), (0, 7), (0, 0), (2, 20)], xi_u (yS47.2.1) 21 0 23, yS47.2.2.1, yS47.2.2.2)
set_option maxRecDepth 20000 in
theorem i_52 {L0 : Nat} {xs : Nat → Int32} {Q : xiQ} (h : xi_V (xG L0 xs) 67 15 [some (Value.ref 21)] [] yS48 2 21 Q) :
    xi_V (xG L0 xs) 67 12 [some (Value.ref 21)] [Value.ref 22, Value.ref 21] yS47 2 21 Q :=
  have h1 : xi_V (xG L0 xs) 67 15 [some (Value.ref 21)] [] yS48 2 21 Q := h
  xi_go 67 [(15, [])] 400 h1
def yS49 : xiS := ([(0, 8), (0, 6), (2, 480), (1, 8), (1, 8), (0, 1), (1, 10), (1, 10), (1, 10), (1, 4), (0, 4), (1, 4), (2, 1024), (2, 100), (0, 3), (0, 0), (2, 20), (0, 0), (2, 20), (0, 0), (2, 20), (0, 7), (0, 0), (2, 20), (0, 0)], xi_z (yS48.2.1) 24 0, xi_z (yS48.2.2.1) 24 0, xi_z (yS48.2.2.2) 24 0)
set_option maxRecDepth 20000 in
theorem i_53 {L0 : Nat} {xs : Nat → Int32} {Q : xiQ} (h : xi_V (xG L0 xs) 8 0 [some (Value.ref 24)] [] yS49 0 0 (fun r σ' => xi_V (xG L0 xs) 67 23 [some (Value.ref 21)] (r.toList ++ [Value.ref 24, Value.ref 21]) σ' 4 42 Q)) :
    xi_V (xG L0 xs) 67 15 [some (Value.ref 21)] [] yS48 2 21 Q :=
  have h1 : xi_V (xG L0 xs) 8 0 [some (Value.ref 24)] [] yS49 0 0 (fun r σ' => xi_V (xG L0 xs) 67 23 [some (Value.ref 21)] (r.toList ++ [Value.ref 24, Value.ref 21]) σ' 4 42 Q) := h
  xi_go 67 [(23, [])] 400 h1
def yS50 : xiS := ([(0, 8), (0, 6), (2, 480), (1, 8), (1, 8), (0, 1), (1, 10), (1, 10), (1, 10), (1, 4), (0, 4), (1, 4), (2, 1024), (2, 100), (0, 3), (0, 0), (2, 20), (0, 0), (2, 20), (0, 0), (2, 20), (0, 7), (0, 0), (2, 20), (0, 0), (2, 20)], xi_u (xi_z (yS49.2.1) 25 0) 24 0 26, xi_z (yS49.2.2.1) 25 0, xi_z (yS49.2.2.2) 25 0)
set_option maxRecDepth 20000 in
theorem i_54 {L0 : Nat} {xs : Nat → Int32} {Q : xiQ} (h : Q none yS50) :
    xi_V (xG L0 xs) 8 0 [some (Value.ref 24)] [] yS49 0 0 Q :=
  have h1 : ¬ (20 : Int32) < 0 ∧ (Q none yS50) := ⟨by decide, h⟩
  xi_go 8 [] 400 h1
def yS51 : xiS := ([(0, 8), (0, 6), (2, 480), (1, 8), (1, 8), (0, 1), (1, 10), (1, 10), (1, 10), (1, 4), (0, 4), (1, 4), (2, 1024), (2, 100), (0, 3), (0, 0), (2, 20), (0, 0), (2, 20), (0, 0), (2, 20), (0, 7), (0, 0), (2, 20), (0, 0), (2, 20)], xi_u (yS50.2.1) 21 1 25, yS50.2.2.1, yS50.2.2.2)
set_option maxRecDepth 20000 in
theorem i_55 {L0 : Nat} {xs : Nat → Int32} {Q : xiQ} (h : Q none yS51) :
    xi_V (xG L0 xs) 67 23 [some (Value.ref 21)] [Value.ref 24, Value.ref 21] yS50 4 42 Q :=
  have h1 : Q none yS51 := h
  xi_go 67 [] 400 h1
def yS52 : xiS := ([(0, 8), (0, 6), (2, 480), (1, 8), (1, 8), (0, 1), (1, 10), (1, 10), (1, 10), (1, 4), (0, 4), (1, 4), (2, 1024), (2, 100), (0, 3), (0, 0), (2, 20), (0, 0), (2, 20), (0, 0), (2, 20), (0, 7), (0, 0), (2, 20), (0, 0), (2, 20)], xi_u (yS51.2.1) 0 4 22, yS51.2.2.1, yS51.2.2.2)
set_option maxRecDepth 20000 in
theorem i_56 {L0 : Nat} {xs : Nat → Int32} {Q : xiQ} (h : xi_V (xG L0 xs) 70 59 [some (Value.ref 0)] [] yS52 25 1784 Q) :
    xi_V (xG L0 xs) 70 56 [some (Value.ref 0)] [Value.ref 21, Value.ref 0] yS51 25 1784 Q :=
  have h1 : xi_V (xG L0 xs) 70 59 [some (Value.ref 0)] [] yS52 25 1784 Q := h
  xi_go 70 [(59, [])] 400 h1
def yS53 : xiS := ([(0, 8), (0, 6), (2, 480), (1, 8), (1, 8), (0, 1), (1, 10), (1, 10), (1, 10), (1, 4), (0, 4), (1, 4), (2, 1024), (2, 100), (0, 3), (0, 0), (2, 20), (0, 0), (2, 20), (0, 0), (2, 20), (0, 7), (0, 0), (2, 20), (0, 0), (2, 20), (0, 5)], xi_z (yS52.2.1) 26 0, xi_z (yS52.2.2.1) 26 0, xi_z (yS52.2.2.2) 26 0)
set_option maxRecDepth 20000 in
theorem i_57 {L0 : Nat} {xs : Nat → Int32} {Q : xiQ} (h : xi_V (xG L0 xs) 53 0 [some (Value.ref 26)] [] yS53 0 0 (fun r σ' => xi_V (xG L0 xs) 70 67 [some (Value.ref 0)] (r.toList ++ [Value.ref 26, Value.ref 0]) σ' 30 1805 Q)) :
    xi_V (xG L0 xs) 70 59 [some (Value.ref 0)] [] yS52 25 1784 Q :=
  have h1 : xi_V (xG L0 xs) 53 0 [some (Value.ref 26)] [] yS53 0 0 (fun r σ' => xi_V (xG L0 xs) 70 67 [some (Value.ref 0)] (r.toList ++ [Value.ref 26, Value.ref 0]) σ' 30 1805 Q) := h
  xi_go 70 [(67, [])] 400 h1
def yS54 : xiS := ([(0, 8), (0, 6), (2, 480), (1, 8), (1, 8), (0, 1), (1, 10), (1, 10), (1, 10), (1, 4), (0, 4), (1, 4), (2, 1024), (2, 100), (0, 3), (0, 0), (2, 20), (0, 0), (2, 20), (0, 0), (2, 20), (0, 7), (0, 0), (2, 20), (0, 0), (2, 20), (0, 5), (1, 4)], xi_u (xi_z (yS53.2.1) 27 0) 26 0 28, xi_z (yS53.2.2.1) 27 0, xi_z (yS53.2.2.2) 27 0)
set_option maxRecDepth 20000 in
theorem i_58 {L0 : Nat} {xs : Nat → Int32} {Q : xiQ} (h : xi_V (xG L0 xs) 53 11 [some (Value.ref 26)] [] yS54 1 4 Q) :
    xi_V (xG L0 xs) 53 0 [some (Value.ref 26)] [] yS53 0 0 Q :=
  have h1 : ¬ (4 : Int32) < 0 ∧ (xi_V (xG L0 xs) 53 11 [some (Value.ref 26)] [] yS54 1 4 Q) := ⟨by decide, h⟩
  xi_go 53 [(11, [])] 400 h1
def yS55 : xiS := ([(0, 8), (0, 6), (2, 480), (1, 8), (1, 8), (0, 1), (1, 10), (1, 10), (1, 10), (1, 4), (0, 4), (1, 4), (2, 1024), (2, 100), (0, 3), (0, 0), (2, 20), (0, 0), (2, 20), (0, 0), (2, 20), (0, 7), (0, 0), (2, 20), (0, 0), (2, 20), (0, 5), (1, 4), (1, 4)], xi_u (xi_z (yS54.2.1) 28 0) 26 2 29, xi_z (yS54.2.2.1) 28 0, xi_z (yS54.2.2.2) 28 0)
set_option maxRecDepth 20000 in
theorem i_59 {L0 : Nat} {xs : Nat → Int32} {Q : xiQ} (h : xi_V (xG L0 xs) 53 18 [some (Value.ref 26)] [] yS55 2 8 Q) :
    xi_V (xG L0 xs) 53 11 [some (Value.ref 26)] [] yS54 1 4 Q :=
  have h1 : ¬ (4 : Int32) < 0 ∧ (xi_V (xG L0 xs) 53 18 [some (Value.ref 26)] [] yS55 2 8 Q) := ⟨by decide, h⟩
  xi_go 53 [(18, [])] 400 h1
def yS56 : xiS := ([(0, 8), (0, 6), (2, 480), (1, 8), (1, 8), (0, 1), (1, 10), (1, 10), (1, 10), (1, 4), (0, 4), (1, 4), (2, 1024), (2, 100), (0, 3), (0, 0), (2, 20), (0, 0), (2, 20), (0, 0), (2, 20), (0, 7), (0, 0), (2, 20), (0, 0), (2, 20), (0, 5), (1, 4), (1, 4), (1, 4)], xi_u (xi_z (yS55.2.1) 29 0) 26 3 30, xi_z (yS55.2.2.1) 29 0, xi_z (yS55.2.2.2) 29 0)
set_option maxRecDepth 20000 in
theorem i_60 {L0 : Nat} {xs : Nat → Int32} {Q : xiQ} (h : xi_V (xG L0 xs) 53 25 [some (Value.ref 26)] [] yS56 3 12 Q) :
    xi_V (xG L0 xs) 53 18 [some (Value.ref 26)] [] yS55 2 8 Q :=
  have h1 : ¬ (4 : Int32) < 0 ∧ (xi_V (xG L0 xs) 53 25 [some (Value.ref 26)] [] yS56 3 12 Q) := ⟨by decide, h⟩
  xi_go 53 [(25, [])] 400 h1
def yS57 : xiS := ([(0, 8), (0, 6), (2, 480), (1, 8), (1, 8), (0, 1), (1, 10), (1, 10), (1, 10), (1, 4), (0, 4), (1, 4), (2, 1024), (2, 100), (0, 3), (0, 0), (2, 20), (0, 0), (2, 20), (0, 0), (2, 20), (0, 7), (0, 0), (2, 20), (0, 0), (2, 20), (0, 5), (1, 4), (1, 4), (1, 4), (2, 4)], xi_u (xi_z (yS56.2.1) 30 0) 26 4 31, xi_z (yS56.2.2.1) 30 0, xi_z (yS56.2.2.2) 30 0)
set_option maxRecDepth 20000 in
theorem i_61 {L0 : Nat} {xs : Nat → Int32} {Q : xiQ} (h : Q none yS57) :
    xi_V (xG L0 xs) 53 25 [some (Value.ref 26)] [] yS56 3 12 Q :=
  have h1 : ¬ (4 : Int32) < 0 ∧ (Q none yS57) := ⟨by decide, h⟩
  xi_go 53 [] 400 h1
def yS58 : xiS := ([(0, 8), (0, 6), (2, 480), (1, 8), (1, 8), (0, 1), (1, 10), (1, 10), (1, 10), (1, 4), (0, 4), (1, 4), (2, 1024), (2, 100), (0, 3), (0, 0), (2, 20), (0, 0), (2, 20), (0, 0), (2, 20), (0, 7), (0, 0), (2, 20), (0, 0), (2, 20), (0, 5), (1, 4), (1, 4), (1, 4), (2, 4)], xi_u (yS57.2.1) 0 5 27, yS57.2.2.1, yS57.2.2.2)
set_option maxRecDepth 20000 in
theorem i_62 {L0 : Nat} {xs : Nat → Int32} {Q : xiQ} (h : xi_V (xG L0 xs) 70 70 [some (Value.ref 0)] [] yS58 30 1805 Q) :
    xi_V (xG L0 xs) 70 67 [some (Value.ref 0)] [Value.ref 26, Value.ref 0] yS57 30 1805 Q :=
  have h1 : xi_V (xG L0 xs) 70 70 [some (Value.ref 0)] [] yS58 30 1805 Q := h
  xi_go 70 [(70, [])] 400 h1
def yS59 : xiS := ([(0, 8), (0, 6), (2, 480), (1, 8), (1, 8), (0, 1), (1, 10), (1, 10), (1, 10), (1, 4), (0, 4), (1, 4), (2, 1024), (2, 100), (0, 3), (0, 0), (2, 20), (0, 0), (2, 20), (0, 0), (2, 20), (0, 7), (0, 0), (2, 20), (0, 0), (2, 20), (0, 5), (1, 4), (1, 4), (1, 4), (2, 4), (0, 2)], xi_z (yS58.2.1) 31 0, xi_z (yS58.2.2.1) 31 0, xi_z (yS58.2.2.2) 31 0)
set_option maxRecDepth 20000 in
theorem i_63 {L0 : Nat} {xs : Nat → Int32} {Q : xiQ} (h : xi_V (xG L0 xs) 24 0 [some (Value.ref 31)] [] yS59 0 0 (fun r σ' => xi_V (xG L0 xs) 70 78 [some (Value.ref 0)] (r.toList ++ [Value.ref 31, Value.ref 0]) σ' 36 2084 Q)) :
    xi_V (xG L0 xs) 70 70 [some (Value.ref 0)] [] yS58 30 1805 Q :=
  have h1 : xi_V (xG L0 xs) 24 0 [some (Value.ref 31)] [] yS59 0 0 (fun r σ' => xi_V (xG L0 xs) 70 78 [some (Value.ref 0)] (r.toList ++ [Value.ref 31, Value.ref 0]) σ' 36 2084 Q) := h
  xi_go 70 [(78, [])] 400 h1
def yS60 : xiS := ([(0, 8), (0, 6), (2, 480), (1, 8), (1, 8), (0, 1), (1, 10), (1, 10), (1, 10), (1, 4), (0, 4), (1, 4), (2, 1024), (2, 100), (0, 3), (0, 0), (2, 20), (0, 0), (2, 20), (0, 0), (2, 20), (0, 7), (0, 0), (2, 20), (0, 0), (2, 20), (0, 5), (1, 4), (1, 4), (1, 4), (2, 4), (0, 2), (1, 10)], xi_u (xi_z (yS59.2.1) 32 0) 31 0 33, xi_z (yS59.2.2.1) 32 0, xi_z (yS59.2.2.2) 32 0)
set_option maxRecDepth 20000 in
theorem i_64 {L0 : Nat} {xs : Nat → Int32} {Q : xiQ} (h : xi_V (xG L0 xs) 24 12 [some (Value.ref 31)] [] yS60 1 10 Q) :
    xi_V (xG L0 xs) 24 0 [some (Value.ref 31)] [] yS59 0 0 Q :=
  have h1 : ¬ (10 : Int32) < 0 ∧ (xi_V (xG L0 xs) 24 12 [some (Value.ref 31)] [] yS60 1 10 Q) := ⟨by decide, h⟩
  xi_go 24 [(12, [])] 400 h1
def yS61 : xiS := ([(0, 8), (0, 6), (2, 480), (1, 8), (1, 8), (0, 1), (1, 10), (1, 10), (1, 10), (1, 4), (0, 4), (1, 4), (2, 1024), (2, 100), (0, 3), (0, 0), (2, 20), (0, 0), (2, 20), (0, 0), (2, 20), (0, 7), (0, 0), (2, 20), (0, 0), (2, 20), (0, 5), (1, 4), (1, 4), (1, 4), (2, 4), (0, 2), (1, 10), (1, 11)], xi_u (xi_z (yS60.2.1) 33 0) 31 1 34, xi_z (yS60.2.2.1) 33 0, xi_z (yS60.2.2.2) 33 0)
set_option maxRecDepth 20000 in
theorem i_65 {L0 : Nat} {xs : Nat → Int32} {Q : xiQ} (h : xi_V (xG L0 xs) 24 20 [some (Value.ref 31)] [] yS61 2 21 Q) :
    xi_V (xG L0 xs) 24 12 [some (Value.ref 31)] [] yS60 1 10 Q :=
  have h1 : ¬ (11 : Int32) < 0 ∧ (xi_V (xG L0 xs) 24 20 [some (Value.ref 31)] [] yS61 2 21 Q) := ⟨by decide, h⟩
  xi_go 24 [(20, [])] 400 h1
def yS62 : xiS := ([(0, 8), (0, 6), (2, 480), (1, 8), (1, 8), (0, 1), (1, 10), (1, 10), (1, 10), (1, 4), (0, 4), (1, 4), (2, 1024), (2, 100), (0, 3), (0, 0), (2, 20), (0, 0), (2, 20), (0, 0), (2, 20), (0, 7), (0, 0), (2, 20), (0, 0), (2, 20), (0, 5), (1, 4), (1, 4), (1, 4), (2, 4), (0, 2), (1, 10), (1, 11), (1, 11)], xi_u (xi_z (yS61.2.1) 34 0) 31 2 35, xi_z (yS61.2.2.1) 34 0, xi_z (yS61.2.2.2) 34 0)
set_option maxRecDepth 20000 in
theorem i_66 {L0 : Nat} {xs : Nat → Int32} {Q : xiQ} (h : xi_V (xG L0 xs) 24 28 [some (Value.ref 31)] [] yS62 3 32 Q) :
    xi_V (xG L0 xs) 24 20 [some (Value.ref 31)] [] yS61 2 21 Q :=
  have h1 : ¬ (11 : Int32) < 0 ∧ (xi_V (xG L0 xs) 24 28 [some (Value.ref 31)] [] yS62 3 32 Q) := ⟨by decide, h⟩
  xi_go 24 [(28, [])] 400 h1
def yS63 : xiS := ([(0, 8), (0, 6), (2, 480), (1, 8), (1, 8), (0, 1), (1, 10), (1, 10), (1, 10), (1, 4), (0, 4), (1, 4), (2, 1024), (2, 100), (0, 3), (0, 0), (2, 20), (0, 0), (2, 20), (0, 0), (2, 20), (0, 7), (0, 0), (2, 20), (0, 0), (2, 20), (0, 5), (1, 4), (1, 4), (1, 4), (2, 4), (0, 2), (1, 10), (1, 11), (1, 11), (1, 121)], xi_u (xi_z (yS62.2.1) 35 0) 31 3 36, xi_z (yS62.2.2.1) 35 0, xi_z (yS62.2.2.2) 35 0)
set_option maxRecDepth 20000 in
theorem i_67 {L0 : Nat} {xs : Nat → Int32} {Q : xiQ} (h : xi_V (xG L0 xs) 24 36 [some (Value.ref 31)] [] yS63 4 153 Q) :
    xi_V (xG L0 xs) 24 28 [some (Value.ref 31)] [] yS62 3 32 Q :=
  have h1 : ¬ (121 : Int32) < 0 ∧ (xi_V (xG L0 xs) 24 36 [some (Value.ref 31)] [] yS63 4 153 Q) := ⟨by decide, h⟩
  xi_go 24 [(36, [])] 400 h1
def yS64 : xiS := ([(0, 8), (0, 6), (2, 480), (1, 8), (1, 8), (0, 1), (1, 10), (1, 10), (1, 10), (1, 4), (0, 4), (1, 4), (2, 1024), (2, 100), (0, 3), (0, 0), (2, 20), (0, 0), (2, 20), (0, 0), (2, 20), (0, 7), (0, 0), (2, 20), (0, 0), (2, 20), (0, 5), (1, 4), (1, 4), (1, 4), (2, 4), (0, 2), (1, 10), (1, 11), (1, 11), (1, 121), (1, 121)], xi_u (xi_z (yS63.2.1) 36 0) 31 4 37, xi_z (yS63.2.2.1) 36 0, xi_z (yS63.2.2.2) 36 0)
set_option maxRecDepth 20000 in
theorem i_68 {L0 : Nat} {xs : Nat → Int32} {Q : xiQ} (h : Q none yS64) :
    xi_V (xG L0 xs) 24 36 [some (Value.ref 31)] [] yS63 4 153 Q :=
  have h1 : ¬ (121 : Int32) < 0 ∧ (Q none yS64) := ⟨by decide, h⟩
  xi_go 24 [] 400 h1
def yS65 : xiS := ([(0, 8), (0, 6), (2, 480), (1, 8), (1, 8), (0, 1), (1, 10), (1, 10), (1, 10), (1, 4), (0, 4), (1, 4), (2, 1024), (2, 100), (0, 3), (0, 0), (2, 20), (0, 0), (2, 20), (0, 0), (2, 20), (0, 7), (0, 0), (2, 20), (0, 0), (2, 20), (0, 5), (1, 4), (1, 4), (1, 4), (2, 4), (0, 2), (1, 10), (1, 11), (1, 11), (1, 121), (1, 121)], xi_u (yS64.2.1) 0 6 32, yS64.2.2.1, yS64.2.2.2)
set_option maxRecDepth 20000 in
theorem i_69 {L0 : Nat} {xs : Nat → Int32} {Q : xiQ} (h : Q none yS65) :
    xi_V (xG L0 xs) 70 78 [some (Value.ref 0)] [Value.ref 31, Value.ref 0] yS64 36 2084 Q :=
  have h1 : Q none yS65 := h
  xi_go 70 [] 400 h1
def yS66 : xiS := ([(0, 8), (0, 6), (2, 480), (1, 8), (1, 8), (0, 1), (1, 10), (1, 10), (1, 10), (1, 4), (0, 4), (1, 4), (2, 1024), (2, 100), (0, 3), (0, 0), (2, 20), (0, 0), (2, 20), (0, 0), (2, 20), (0, 7), (0, 0), (2, 20), (0, 0), (2, 20), (0, 5), (1, 4), (1, 4), (1, 4), (2, 4), (0, 2), (1, 10), (1, 11), (1, 11), (1, 121), (1, 121), (0, 9)], xi_z (yS65.2.1) 37 0, xi_z (yS65.2.2.1) 37 0, xi_z (yS65.2.2.2) 37 0)
set_option maxRecDepth 20000 in
theorem i_70 {L0 : Nat} {xs : Nat → Int32} {Q : xiQ} (h : xi_V (xG L0 xs) 173 11 [some (Value.ref 1000000), some (Value.ref 0), none, none] [Value.ref 37] yS66 38 2113 Q) :
    xi_V (xG L0 xs) 173 7 [some (Value.ref 1000000), none, none, none] [Value.ref 0] yS65 37 2091 Q :=
  have h1 : xi_V (xG L0 xs) 173 11 [some (Value.ref 1000000), some (Value.ref 0), none, none] [Value.ref 37] yS66 38 2113 Q := h
  xi_go 173 [(11, [])] 400 h1
set_option maxRecDepth 20000 in
theorem i_71 {L0 : Nat} {xs : Nat → Int32} {Q : xiQ} (h : xi_V (xG L0 xs) 107 0 [some (Value.ref 37)] [] yS66 0 0 (fun r σ' => xi_V (xG L0 xs) 173 15 [some (Value.ref 1000000), some (Value.ref 0), none, none] (r.toList ++ [Value.ref 37]) σ' 53 49788 Q)) :
    xi_V (xG L0 xs) 173 11 [some (Value.ref 1000000), some (Value.ref 0), none, none] [Value.ref 37] yS66 38 2113 Q :=
  have h1 : xi_V (xG L0 xs) 107 0 [some (Value.ref 37)] [] yS66 0 0 (fun r σ' => xi_V (xG L0 xs) 173 15 [some (Value.ref 1000000), some (Value.ref 0), none, none] (r.toList ++ [Value.ref 37]) σ' 53 49788 Q) := h
  xi_go 173 [(15, [])] 400 h1
def yS67 : xiS := ([(0, 8), (0, 6), (2, 480), (1, 8), (1, 8), (0, 1), (1, 10), (1, 10), (1, 10), (1, 4), (0, 4), (1, 4), (2, 1024), (2, 100), (0, 3), (0, 0), (2, 20), (0, 0), (2, 20), (0, 0), (2, 20), (0, 7), (0, 0), (2, 20), (0, 0), (2, 20), (0, 5), (1, 4), (1, 4), (1, 4), (2, 4), (0, 2), (1, 10), (1, 11), (1, 11), (1, 121), (1, 121), (0, 9), (2, 46948)], xi_u (xi_z (yS66.2.1) 38 0) 37 0 39, xi_z (yS66.2.2.1) 38 0, xi_z (yS66.2.2.2) 38 0)
set_option maxRecDepth 20000 in
theorem i_72 {L0 : Nat} {xs : Nat → Int32} {Q : xiQ} (h : xi_V (xG L0 xs) 107 12 [some (Value.ref 37)] [] yS67 1 46948 Q) :
    xi_V (xG L0 xs) 107 0 [some (Value.ref 37)] [] yS66 0 0 Q :=
  have h1 : ¬ (46948 : Int32) < 0 ∧ (xi_V (xG L0 xs) 107 12 [some (Value.ref 37)] [] yS67 1 46948 Q) := ⟨by decide, h⟩
  xi_go 107 [(12, [])] 400 h1
def yS68 : xiS := ([(0, 8), (0, 6), (2, 480), (1, 8), (1, 8), (0, 1), (1, 10), (1, 10), (1, 10), (1, 4), (0, 4), (1, 4), (2, 1024), (2, 100), (0, 3), (0, 0), (2, 20), (0, 0), (2, 20), (0, 0), (2, 20), (0, 7), (0, 0), (2, 20), (0, 0), (2, 20), (0, 5), (1, 4), (1, 4), (1, 4), (2, 4), (0, 2), (1, 10), (1, 11), (1, 11), (1, 121), (1, 121), (0, 9), (2, 46948), (1, 8)], xi_u (xi_z (yS67.2.1) 39 0) 37 2 40, xi_z (yS67.2.2.1) 39 0, xi_z (yS67.2.2.2) 39 0)
set_option maxRecDepth 20000 in
theorem i_73 {L0 : Nat} {xs : Nat → Int32} {Q : xiQ} (h : xi_V (xG L0 xs) 107 20 [some (Value.ref 37)] [] yS68 2 46956 Q) :
    xi_V (xG L0 xs) 107 12 [some (Value.ref 37)] [] yS67 1 46948 Q :=
  have h1 : ¬ (8 : Int32) < 0 ∧ (xi_V (xG L0 xs) 107 20 [some (Value.ref 37)] [] yS68 2 46956 Q) := ⟨by decide, h⟩
  xi_go 107 [(20, [])] 400 h1
def yS69 : xiS := ([(0, 8), (0, 6), (2, 480), (1, 8), (1, 8), (0, 1), (1, 10), (1, 10), (1, 10), (1, 4), (0, 4), (1, 4), (2, 1024), (2, 100), (0, 3), (0, 0), (2, 20), (0, 0), (2, 20), (0, 0), (2, 20), (0, 7), (0, 0), (2, 20), (0, 0), (2, 20), (0, 5), (1, 4), (1, 4), (1, 4), (2, 4), (0, 2), (1, 10), (1, 11), (1, 11), (1, 121), (1, 121), (0, 9), (2, 46948), (1, 8), (1, 8)], xi_u (xi_z (yS68.2.1) 40 0) 37 3 41, xi_z (yS68.2.2.1) 40 0, xi_z (yS68.2.2.2) 40 0)
set_option maxRecDepth 20000 in
theorem i_74 {L0 : Nat} {xs : Nat → Int32} {Q : xiQ} (h : xi_V (xG L0 xs) 107 28 [some (Value.ref 37)] [] yS69 3 46964 Q) :
    xi_V (xG L0 xs) 107 20 [some (Value.ref 37)] [] yS68 2 46956 Q :=
  have h1 : ¬ (8 : Int32) < 0 ∧ (xi_V (xG L0 xs) 107 28 [some (Value.ref 37)] [] yS69 3 46964 Q) := ⟨by decide, h⟩
  xi_go 107 [(28, [])] 400 h1
def yS70 : xiS := ([(0, 8), (0, 6), (2, 480), (1, 8), (1, 8), (0, 1), (1, 10), (1, 10), (1, 10), (1, 4), (0, 4), (1, 4), (2, 1024), (2, 100), (0, 3), (0, 0), (2, 20), (0, 0), (2, 20), (0, 0), (2, 20), (0, 7), (0, 0), (2, 20), (0, 0), (2, 20), (0, 5), (1, 4), (1, 4), (1, 4), (2, 4), (0, 2), (1, 10), (1, 11), (1, 11), (1, 121), (1, 121), (0, 9), (2, 46948), (1, 8), (1, 8), (2, 480)], xi_u (xi_z (yS69.2.1) 41 0) 37 4 42, xi_z (yS69.2.2.1) 41 0, xi_z (yS69.2.2.2) 41 0)
set_option maxRecDepth 20000 in
theorem i_75 {L0 : Nat} {xs : Nat → Int32} {Q : xiQ} (h : xi_V (xG L0 xs) 107 37 [some (Value.ref 37)] [] yS70 4 47444 Q) :
    xi_V (xG L0 xs) 107 28 [some (Value.ref 37)] [] yS69 3 46964 Q :=
  have h1 : ¬ (480 : Int32) < 0 ∧ (xi_V (xG L0 xs) 107 37 [some (Value.ref 37)] [] yS70 4 47444 Q) := ⟨by decide, h⟩
  xi_go 107 [(37, [])] 400 h1
def yS71 : xiS := ([(0, 8), (0, 6), (2, 480), (1, 8), (1, 8), (0, 1), (1, 10), (1, 10), (1, 10), (1, 4), (0, 4), (1, 4), (2, 1024), (2, 100), (0, 3), (0, 0), (2, 20), (0, 0), (2, 20), (0, 0), (2, 20), (0, 7), (0, 0), (2, 20), (0, 0), (2, 20), (0, 5), (1, 4), (1, 4), (1, 4), (2, 4), (0, 2), (1, 10), (1, 11), (1, 11), (1, 121), (1, 121), (0, 9), (2, 46948), (1, 8), (1, 8), (2, 480)], yS70.2.1, xi_u (yS70.2.2.1) 37 5 (1 : Int32), yS70.2.2.2)
set_option maxRecDepth 20000 in
theorem i_76 {L0 : Nat} {xs : Nat → Int32} {Q : xiQ} (h : xi_V (xG L0 xs) 107 42 [some (Value.ref 37)] [] yS71 4 47444 Q) :
    xi_V (xG L0 xs) 107 37 [some (Value.ref 37)] [] yS70 4 47444 Q :=
  have h1 : xi_V (xG L0 xs) 107 42 [some (Value.ref 37)] [] yS71 4 47444 Q := h
  xi_go 107 [(42, [])] 400 h1
def yS72 : xiS := ([(0, 8), (0, 6), (2, 480), (1, 8), (1, 8), (0, 1), (1, 10), (1, 10), (1, 10), (1, 4), (0, 4), (1, 4), (2, 1024), (2, 100), (0, 3), (0, 0), (2, 20), (0, 0), (2, 20), (0, 0), (2, 20), (0, 7), (0, 0), (2, 20), (0, 0), (2, 20), (0, 5), (1, 4), (1, 4), (1, 4), (2, 4), (0, 2), (1, 10), (1, 11), (1, 11), (1, 121), (1, 121), (0, 9), (2, 46948), (1, 8), (1, 8), (2, 480), (1, 10)], xi_u (xi_z (yS71.2.1) 42 0) 37 6 43, xi_z (yS71.2.2.1) 42 0, xi_z (yS71.2.2.2) 42 0)
set_option maxRecDepth 20000 in
theorem i_77 {L0 : Nat} {xs : Nat → Int32} {Q : xiQ} (h : xi_V (xG L0 xs) 107 50 [some (Value.ref 37)] [] yS72 5 47454 Q) :
    xi_V (xG L0 xs) 107 42 [some (Value.ref 37)] [] yS71 4 47444 Q :=
  have h1 : ¬ (10 : Int32) < 0 ∧ (xi_V (xG L0 xs) 107 50 [some (Value.ref 37)] [] yS72 5 47454 Q) := ⟨by decide, h⟩
  xi_go 107 [(50, [])] 400 h1
def yS73 : xiS := ([(0, 8), (0, 6), (2, 480), (1, 8), (1, 8), (0, 1), (1, 10), (1, 10), (1, 10), (1, 4), (0, 4), (1, 4), (2, 1024), (2, 100), (0, 3), (0, 0), (2, 20), (0, 0), (2, 20), (0, 0), (2, 20), (0, 7), (0, 0), (2, 20), (0, 0), (2, 20), (0, 5), (1, 4), (1, 4), (1, 4), (2, 4), (0, 2), (1, 10), (1, 11), (1, 11), (1, 121), (1, 121), (0, 9), (2, 46948), (1, 8), (1, 8), (2, 480), (1, 10), (1, 10)], xi_z (yS72.2.1) 43 0, xi_u (xi_z (yS72.2.2.1) 43 0) 43 0 (1 : Int32), xi_z (yS72.2.2.2) 43 0)
set_option maxRecDepth 20000 in
theorem i_78 {L0 : Nat} {xs : Nat → Int32} {Q : xiQ} (h : xi_V (xG L0 xs) 107 59 [some (Value.ref 37)] [Value.ref 43, Value.ref 37] yS73 6 47464 Q) :
    xi_V (xG L0 xs) 107 50 [some (Value.ref 37)] [] yS72 5 47454 Q :=
  have h1 : ¬ (10 : Int32) < 0 ∧ (vp_in (0 : Int32) 10 ∧ (xi_V (xG L0 xs) 107 59 [some (Value.ref 37)] [Value.ref 43, Value.ref 37] yS73 6 47464 Q)) := ⟨by decide, ⟨by unfold vp_in; decide, h⟩⟩
  xi_go 107 [(59, [])] 400 h1
def yS74 : xiS := ([(0, 8), (0, 6), (2, 480), (1, 8), (1, 8), (0, 1), (1, 10), (1, 10), (1, 10), (1, 4), (0, 4), (1, 4), (2, 1024), (2, 100), (0, 3), (0, 0), (2, 20), (0, 0), (2, 20), (0, 0), (2, 20), (0, 7), (0, 0), (2, 20), (0, 0), (2, 20), (0, 5), (1, 4), (1, 4), (1, 4), (2, 4), (0, 2), (1, 10), (1, 11), (1, 11), (1, 121), (1, 121), (0, 9), (2, 46948), (1, 8), (1, 8), (2, 480), (1, 10), (1, 10)], yS73.2.1, xi_u (yS73.2.2.1) 43 1 (0 : Int32), yS73.2.2.2)
set_option maxRecDepth 20000 in
theorem i_79 {L0 : Nat} {xs : Nat → Int32} {Q : xiQ} (h : xi_V (xG L0 xs) 107 63 [some (Value.ref 37)] [Value.ref 43, Value.ref 37] yS74 6 47464 Q) :
    xi_V (xG L0 xs) 107 59 [some (Value.ref 37)] [Value.ref 43, Value.ref 37] yS73 6 47464 Q :=
  have h1 : vp_in (1 : Int32) 10 ∧ (xi_V (xG L0 xs) 107 63 [some (Value.ref 37)] [Value.ref 43, Value.ref 37] yS74 6 47464 Q) := ⟨by unfold vp_in; decide, h⟩
  xi_go 107 [(63, [])] 400 h1
def yS75 : xiS := ([(0, 8), (0, 6), (2, 480), (1, 8), (1, 8), (0, 1), (1, 10), (1, 10), (1, 10), (1, 4), (0, 4), (1, 4), (2, 1024), (2, 100), (0, 3), (0, 0), (2, 20), (0, 0), (2, 20), (0, 0), (2, 20), (0, 7), (0, 0), (2, 20), (0, 0), (2, 20), (0, 5), (1, 4), (1, 4), (1, 4), (2, 4), (0, 2), (1, 10), (1, 11), (1, 11), (1, 121), (1, 121), (0, 9), (2, 46948), (1, 8), (1, 8), (2, 480), (1, 10), (1, 10)], yS74.2.1, xi_u (yS74.2.2.1) 43 2 (0 : Int32), yS74.2.2.2)
set_option maxRecDepth 20000 in
theorem i_80 {L0 : Nat} {xs : Nat → Int32} {Q : xiQ} (h : xi_V (xG L0 xs) 107 67 [some (Value.ref 37)] [Value.ref 43, Value.ref 37] yS75 6 47464 Q) :
    xi_V (xG L0 xs) 107 63 [some (Value.ref 37)] [Value.ref 43, Value.ref 37] yS74 6 47464 Q :=
  have h1 : vp_in (2 : Int32) 10 ∧ (xi_V (xG L0 xs) 107 67 [some (Value.ref 37)] [Value.ref 43, Value.ref 37] yS75 6 47464 Q) := ⟨by unfold vp_in; decide, h⟩
  xi_go 107 [(67, [])] 400 h1
def yS76 : xiS := ([(0, 8), (0, 6), (2, 480), (1, 8), (1, 8), (0, 1), (1, 10), (1, 10), (1, 10), (1, 4), (0, 4), (1, 4), (2, 1024), (2, 100), (0, 3), (0, 0), (2, 20), (0, 0), (2, 20), (0, 0), (2, 20), (0, 7), (0, 0), (2, 20), (0, 0), (2, 20), (0, 5), (1, 4), (1, 4), (1, 4), (2, 4), (0, 2), (1, 10), (1, 11), (1, 11), (1, 121), (1, 121), (0, 9), (2, 46948), (1, 8), (1, 8), (2, 480), (1, 10), (1, 10)], yS75.2.1, xi_u (yS75.2.2.1) 43 3 (0 : Int32), yS75.2.2.2)
set_option maxRecDepth 20000 in
theorem i_81 {L0 : Nat} {xs : Nat → Int32} {Q : xiQ} (h : xi_V (xG L0 xs) 107 71 [some (Value.ref 37)] [Value.ref 43, Value.ref 37] yS76 6 47464 Q) :
    xi_V (xG L0 xs) 107 67 [some (Value.ref 37)] [Value.ref 43, Value.ref 37] yS75 6 47464 Q :=
  have h1 : vp_in (3 : Int32) 10 ∧ (xi_V (xG L0 xs) 107 71 [some (Value.ref 37)] [Value.ref 43, Value.ref 37] yS76 6 47464 Q) := ⟨by unfold vp_in; decide, h⟩
  xi_go 107 [(71, [])] 400 h1
def yS77 : xiS := ([(0, 8), (0, 6), (2, 480), (1, 8), (1, 8), (0, 1), (1, 10), (1, 10), (1, 10), (1, 4), (0, 4), (1, 4), (2, 1024), (2, 100), (0, 3), (0, 0), (2, 20), (0, 0), (2, 20), (0, 0), (2, 20), (0, 7), (0, 0), (2, 20), (0, 0), (2, 20), (0, 5), (1, 4), (1, 4), (1, 4), (2, 4), (0, 2), (1, 10), (1, 11), (1, 11), (1, 121), (1, 121), (0, 9), (2, 46948), (1, 8), (1, 8), (2, 480), (1, 10), (1, 10)], yS76.2.1, xi_u (yS76.2.2.1) 43 4 (0 : Int32), yS76.2.2.2)
set_option maxRecDepth 20000 in
theorem i_82 {L0 : Nat} {xs : Nat → Int32} {Q : xiQ} (h : xi_V (xG L0 xs) 107 75 [some (Value.ref 37)] [Value.ref 43, Value.ref 37] yS77 6 47464 Q) :
    xi_V (xG L0 xs) 107 71 [some (Value.ref 37)] [Value.ref 43, Value.ref 37] yS76 6 47464 Q :=
  have h1 : vp_in (4 : Int32) 10 ∧ (xi_V (xG L0 xs) 107 75 [some (Value.ref 37)] [Value.ref 43, Value.ref 37] yS77 6 47464 Q) := ⟨by unfold vp_in; decide, h⟩
  xi_go 107 [(75, [])] 400 h1
def yS78 : xiS := ([(0, 8), (0, 6), (2, 480), (1, 8), (1, 8), (0, 1), (1, 10), (1, 10), (1, 10), (1, 4), (0, 4), (1, 4), (2, 1024), (2, 100), (0, 3), (0, 0), (2, 20), (0, 0), (2, 20), (0, 0), (2, 20), (0, 7), (0, 0), (2, 20), (0, 0), (2, 20), (0, 5), (1, 4), (1, 4), (1, 4), (2, 4), (0, 2), (1, 10), (1, 11), (1, 11), (1, 121), (1, 121), (0, 9), (2, 46948), (1, 8), (1, 8), (2, 480), (1, 10), (1, 10)], yS77.2.1, xi_u (yS77.2.2.1) 43 5 (0 : Int32), yS77.2.2.2)
set_option maxRecDepth 20000 in
theorem i_83 {L0 : Nat} {xs : Nat → Int32} {Q : xiQ} (h : xi_V (xG L0 xs) 107 79 [some (Value.ref 37)] [Value.ref 43, Value.ref 37] yS78 6 47464 Q) :
    xi_V (xG L0 xs) 107 75 [some (Value.ref 37)] [Value.ref 43, Value.ref 37] yS77 6 47464 Q :=
  have h1 : vp_in (5 : Int32) 10 ∧ (xi_V (xG L0 xs) 107 79 [some (Value.ref 37)] [Value.ref 43, Value.ref 37] yS78 6 47464 Q) := ⟨by unfold vp_in; decide, h⟩
  xi_go 107 [(79, [])] 400 h1
def yS79 : xiS := ([(0, 8), (0, 6), (2, 480), (1, 8), (1, 8), (0, 1), (1, 10), (1, 10), (1, 10), (1, 4), (0, 4), (1, 4), (2, 1024), (2, 100), (0, 3), (0, 0), (2, 20), (0, 0), (2, 20), (0, 0), (2, 20), (0, 7), (0, 0), (2, 20), (0, 0), (2, 20), (0, 5), (1, 4), (1, 4), (1, 4), (2, 4), (0, 2), (1, 10), (1, 11), (1, 11), (1, 121), (1, 121), (0, 9), (2, 46948), (1, 8), (1, 8), (2, 480), (1, 10), (1, 10)], yS78.2.1, xi_u (yS78.2.2.1) 43 6 (0 : Int32), yS78.2.2.2)
set_option maxRecDepth 20000 in
theorem i_84 {L0 : Nat} {xs : Nat → Int32} {Q : xiQ} (h : xi_V (xG L0 xs) 107 84 [some (Value.ref 37)] [Value.ref 43, Value.ref 37] yS79 6 47464 Q) :
    xi_V (xG L0 xs) 107 79 [some (Value.ref 37)] [Value.ref 43, Value.ref 37] yS78 6 47464 Q :=
  have h1 : vp_in (6 : Int32) 10 ∧ (xi_V (xG L0 xs) 107 84 [some (Value.ref 37)] [Value.ref 43, Value.ref 37] yS79 6 47464 Q) := ⟨by unfold vp_in; decide, h⟩
  xi_go 107 [(84, [])] 400 h1
def yS80 : xiS := ([(0, 8), (0, 6), (2, 480), (1, 8), (1, 8), (0, 1), (1, 10), (1, 10), (1, 10), (1, 4), (0, 4), (1, 4), (2, 1024), (2, 100), (0, 3), (0, 0), (2, 20), (0, 0), (2, 20), (0, 0), (2, 20), (0, 7), (0, 0), (2, 20), (0, 0), (2, 20), (0, 5), (1, 4), (1, 4), (1, 4), (2, 4), (0, 2), (1, 10), (1, 11), (1, 11), (1, 121), (1, 121), (0, 9), (2, 46948), (1, 8), (1, 8), (2, 480), (1, 10), (1, 10)], yS79.2.1, xi_u (yS79.2.2.1) 43 7 (0 : Int32), yS79.2.2.2)
set_option maxRecDepth 20000 in
theorem i_85 {L0 : Nat} {xs : Nat → Int32} {Q : xiQ} (h : xi_V (xG L0 xs) 107 89 [some (Value.ref 37)] [Value.ref 43, Value.ref 37] yS80 6 47464 Q) :
    xi_V (xG L0 xs) 107 84 [some (Value.ref 37)] [Value.ref 43, Value.ref 37] yS79 6 47464 Q :=
  have h1 : vp_in (7 : Int32) 10 ∧ (xi_V (xG L0 xs) 107 89 [some (Value.ref 37)] [Value.ref 43, Value.ref 37] yS80 6 47464 Q) := ⟨by unfold vp_in; decide, h⟩
  xi_go 107 [(89, [])] 400 h1
def yS81 : xiS := ([(0, 8), (0, 6), (2, 480), (1, 8), (1, 8), (0, 1), (1, 10), (1, 10), (1, 10), (1, 4), (0, 4), (1, 4), (2, 1024), (2, 100), (0, 3), (0, 0), (2, 20), (0, 0), (2, 20), (0, 0), (2, 20), (0, 7), (0, 0), (2, 20), (0, 0), (2, 20), (0, 5), (1, 4), (1, 4), (1, 4), (2, 4), (0, 2), (1, 10), (1, 11), (1, 11), (1, 121), (1, 121), (0, 9), (2, 46948), (1, 8), (1, 8), (2, 480), (1, 10), (1, 10)], yS80.2.1, xi_u (yS80.2.2.1) 43 8 (0 : Int32), yS80.2.2.2)
set_option maxRecDepth 20000 in
theorem i_86 {L0 : Nat} {xs : Nat → Int32} {Q : xiQ} (h : xi_V (xG L0 xs) 107 94 [some (Value.ref 37)] [Value.ref 43, Value.ref 37] yS81 6 47464 Q) :
    xi_V (xG L0 xs) 107 89 [some (Value.ref 37)] [Value.ref 43, Value.ref 37] yS80 6 47464 Q :=
  have h1 : vp_in (8 : Int32) 10 ∧ (xi_V (xG L0 xs) 107 94 [some (Value.ref 37)] [Value.ref 43, Value.ref 37] yS81 6 47464 Q) := ⟨by unfold vp_in; decide, h⟩
  xi_go 107 [(94, [])] 400 h1
def yS82 : xiS := ([(0, 8), (0, 6), (2, 480), (1, 8), (1, 8), (0, 1), (1, 10), (1, 10), (1, 10), (1, 4), (0, 4), (1, 4), (2, 1024), (2, 100), (0, 3), (0, 0), (2, 20), (0, 0), (2, 20), (0, 0), (2, 20), (0, 7), (0, 0), (2, 20), (0, 0), (2, 20), (0, 5), (1, 4), (1, 4), (1, 4), (2, 4), (0, 2), (1, 10), (1, 11), (1, 11), (1, 121), (1, 121), (0, 9), (2, 46948), (1, 8), (1, 8), (2, 480), (1, 10), (1, 10)], yS81.2.1, xi_u (yS81.2.2.1) 43 9 (0 : Int32), yS81.2.2.2)
set_option maxRecDepth 20000 in
theorem i_87 {L0 : Nat} {xs : Nat → Int32} {Q : xiQ} (h : xi_V (xG L0 xs) 107 99 [some (Value.ref 37)] [Value.ref 43, Value.ref 37] yS82 6 47464 Q) :
    xi_V (xG L0 xs) 107 94 [some (Value.ref 37)] [Value.ref 43, Value.ref 37] yS81 6 47464 Q :=
  have h1 : vp_in (9 : Int32) 10 ∧ (xi_V (xG L0 xs) 107 99 [some (Value.ref 37)] [Value.ref 43, Value.ref 37] yS82 6 47464 Q) := ⟨by unfold vp_in; decide, h⟩
  xi_go 107 [(99, [])] 400 h1
def yS83 : xiS := ([(0, 8), (0, 6), (2, 480), (1, 8), (1, 8), (0, 1), (1, 10), (1, 10), (1, 10), (1, 4), (0, 4), (1, 4), (2, 1024), (2, 100), (0, 3), (0, 0), (2, 20), (0, 0), (2, 20), (0, 0), (2, 20), (0, 7), (0, 0), (2, 20), (0, 0), (2, 20), (0, 5), (1, 4), (1, 4), (1, 4), (2, 4), (0, 2), (1, 10), (1, 11), (1, 11), (1, 121), (1, 121), (0, 9), (2, 46948), (1, 8), (1, 8), (2, 480), (1, 10), (1, 10)], xi_u (yS82.2.1) 37 7 44, yS82.2.2.1, yS82.2.2.2)
set_option maxRecDepth 20000 in
theorem i_88 {L0 : Nat} {xs : Nat → Int32} {Q : xiQ} (h : xi_V (xG L0 xs) 107 102 [some (Value.ref 37)] [] yS83 6 47464 Q) :
    xi_V (xG L0 xs) 107 99 [some (Value.ref 37)] [Value.ref 43, Value.ref 37] yS82 6 47464 Q :=
  have h1 : xi_V (xG L0 xs) 107 102 [some (Value.ref 37)] [] yS83 6 47464 Q := h
  xi_go 107 [(102, [])] 400 h1
def yS84 : xiS := ([(0, 8), (0, 6), (2, 480), (1, 8), (1, 8), (0, 1), (1, 10), (1, 10), (1, 10), (1, 4), (0, 4), (1, 4), (2, 1024), (2, 100), (0, 3), (0, 0), (2, 20), (0, 0), (2, 20), (0, 0), (2, 20), (0, 7), (0, 0), (2, 20), (0, 0), (2, 20), (0, 5), (1, 4), (1, 4), (1, 4), (2, 4), (0, 2), (1, 10), (1, 11), (1, 11), (1, 121), (1, 121), (0, 9), (2, 46948), (1, 8), (1, 8), (2, 480), (1, 10), (1, 10), (1, 10)], xi_u (xi_z (yS83.2.1) 44 0) 37 8 45, xi_z (yS83.2.2.1) 44 0, xi_z (yS83.2.2.2) 44 0)
set_option maxRecDepth 20000 in
theorem i_89 {L0 : Nat} {xs : Nat → Int32} {Q : xiQ} (h : xi_V (xG L0 xs) 107 110 [some (Value.ref 37)] [] yS84 7 47474 Q) :
    xi_V (xG L0 xs) 107 102 [some (Value.ref 37)] [] yS83 6 47464 Q :=
  have h1 : ¬ (10 : Int32) < 0 ∧ (xi_V (xG L0 xs) 107 110 [some (Value.ref 37)] [] yS84 7 47474 Q) := ⟨by decide, h⟩
  xi_go 107 [(110, [])] 400 h1
def yS85 : xiS := ([(0, 8), (0, 6), (2, 480), (1, 8), (1, 8), (0, 1), (1, 10), (1, 10), (1, 10), (1, 4), (0, 4), (1, 4), (2, 1024), (2, 100), (0, 3), (0, 0), (2, 20), (0, 0), (2, 20), (0, 0), (2, 20), (0, 7), (0, 0), (2, 20), (0, 0), (2, 20), (0, 5), (1, 4), (1, 4), (1, 4), (2, 4), (0, 2), (1, 10), (1, 11), (1, 11), (1, 121), (1, 121), (0, 9), (2, 46948), (1, 8), (1, 8), (2, 480), (1, 10), (1, 10), (1, 10), (1, 10)], xi_u (xi_z (yS84.2.1) 45 0) 37 9 46, xi_z (yS84.2.2.1) 45 0, xi_z (yS84.2.2.2) 45 0)
set_option maxRecDepth 20000 in
theorem i_90 {L0 : Nat} {xs : Nat → Int32} {Q : xiQ} (h : xi_V (xG L0 xs) 107 118 [some (Value.ref 37)] [] yS85 8 47484 Q) :
    xi_V (xG L0 xs) 107 110 [some (Value.ref 37)] [] yS84 7 47474 Q :=
  have h1 : ¬ (10 : Int32) < 0 ∧ (xi_V (xG L0 xs) 107 118 [some (Value.ref 37)] [] yS85 8 47484 Q) := ⟨by decide, h⟩
  xi_go 107 [(118, [])] 400 h1
def yS86 : xiS := ([(0, 8), (0, 6), (2, 480), (1, 8), (1, 8), (0, 1), (1, 10), (1, 10), (1, 10), (1, 4), (0, 4), (1, 4), (2, 1024), (2, 100), (0, 3), (0, 0), (2, 20), (0, 0), (2, 20), (0, 0), (2, 20), (0, 7), (0, 0), (2, 20), (0, 0), (2, 20), (0, 5), (1, 4), (1, 4), (1, 4), (2, 4), (0, 2), (1, 10), (1, 11), (1, 11), (1, 121), (1, 121), (0, 9), (2, 46948), (1, 8), (1, 8), (2, 480), (1, 10), (1, 10), (1, 10), (1, 10), (1, 4)], xi_u (xi_z (yS85.2.1) 46 0) 37 10 47, xi_z (yS85.2.2.1) 46 0, xi_z (yS85.2.2.2) 46 0)
set_option maxRecDepth 20000 in
theorem i_91 {L0 : Nat} {xs : Nat → Int32} {Q : xiQ} (h : xi_V (xG L0 xs) 107 125 [some (Value.ref 37)] [] yS86 9 47488 Q) :
    xi_V (xG L0 xs) 107 118 [some (Value.ref 37)] [] yS85 8 47484 Q :=
  have h1 : ¬ (4 : Int32) < 0 ∧ (xi_V (xG L0 xs) 107 125 [some (Value.ref 37)] [] yS86 9 47488 Q) := ⟨by decide, h⟩
  xi_go 107 [(125, [])] 400 h1
def yS87 : xiS := ([(0, 8), (0, 6), (2, 480), (1, 8), (1, 8), (0, 1), (1, 10), (1, 10), (1, 10), (1, 4), (0, 4), (1, 4), (2, 1024), (2, 100), (0, 3), (0, 0), (2, 20), (0, 0), (2, 20), (0, 0), (2, 20), (0, 7), (0, 0), (2, 20), (0, 0), (2, 20), (0, 5), (1, 4), (1, 4), (1, 4), (2, 4), (0, 2), (1, 10), (1, 11), (1, 11), (1, 121), (1, 121), (0, 9), (2, 46948), (1, 8), (1, 8), (2, 480), (1, 10), (1, 10), (1, 10), (1, 10), (1, 4)], yS86.2.1, xi_u (yS86.2.2.1) 37 12 (1 : Int32), yS86.2.2.2)
set_option maxRecDepth 20000 in
theorem i_92 {L0 : Nat} {xs : Nat → Int32} {Q : xiQ} (h : xi_V (xG L0 xs) 107 130 [some (Value.ref 37)] [] yS87 9 47488 Q) :
    xi_V (xG L0 xs) 107 125 [some (Value.ref 37)] [] yS86 9 47488 Q :=
  have h1 : xi_V (xG L0 xs) 107 130 [some (Value.ref 37)] [] yS87 9 47488 Q := h
  xi_go 107 [(130, [])] 400 h1
def yS88 : xiS := ([(0, 8), (0, 6), (2, 480), (1, 8), (1, 8), (0, 1), (1, 10), (1, 10), (1, 10), (1, 4), (0, 4), (1, 4), (2, 1024), (2, 100), (0, 3), (0, 0), (2, 20), (0, 0), (2, 20), (0, 0), (2, 20), (0, 7), (0, 0), (2, 20), (0, 0), (2, 20), (0, 5), (1, 4), (1, 4), (1, 4), (2, 4), (0, 2), (1, 10), (1, 11), (1, 11), (1, 121), (1, 121), (0, 9), (2, 46948), (1, 8), (1, 8), (2, 480), (1, 10), (1, 10), (1, 10), (1, 10), (1, 4), (2, 44)], xi_u (xi_z (yS87.2.1) 47 0) 37 13 48, xi_z (yS87.2.2.1) 47 0, xi_z (yS87.2.2.2) 47 0)
set_option maxRecDepth 20000 in
theorem i_93 {L0 : Nat} {xs : Nat → Int32} {Q : xiQ} (h : xi_V (xG L0 xs) 107 138 [some (Value.ref 37)] [] yS88 10 47532 Q) :
    xi_V (xG L0 xs) 107 130 [some (Value.ref 37)] [] yS87 9 47488 Q :=
  have h1 : ¬ (44 : Int32) < 0 ∧ (xi_V (xG L0 xs) 107 138 [some (Value.ref 37)] [] yS88 10 47532 Q) := ⟨by decide, h⟩
  xi_go 107 [(138, [])] 400 h1
def yS89 : xiS := ([(0, 8), (0, 6), (2, 480), (1, 8), (1, 8), (0, 1), (1, 10), (1, 10), (1, 10), (1, 4), (0, 4), (1, 4), (2, 1024), (2, 100), (0, 3), (0, 0), (2, 20), (0, 0), (2, 20), (0, 0), (2, 20), (0, 7), (0, 0), (2, 20), (0, 0), (2, 20), (0, 5), (1, 4), (1, 4), (1, 4), (2, 4), (0, 2), (1, 10), (1, 11), (1, 11), (1, 121), (1, 121), (0, 9), (2, 46948), (1, 8), (1, 8), (2, 480), (1, 10), (1, 10), (1, 10), (1, 10), (1, 4), (2, 44), (2, 44)], xi_u (xi_z (yS88.2.1) 48 0) 37 14 49, xi_z (yS88.2.2.1) 48 0, xi_z (yS88.2.2.2) 48 0)
set_option maxRecDepth 20000 in
theorem i_94 {L0 : Nat} {xs : Nat → Int32} {Q : xiQ} (h : xi_V (xG L0 xs) 107 146 [some (Value.ref 37)] [] yS89 11 47576 Q) :
    xi_V (xG L0 xs) 107 138 [some (Value.ref 37)] [] yS88 10 47532 Q :=
  have h1 : ¬ (44 : Int32) < 0 ∧ (xi_V (xG L0 xs) 107 146 [some (Value.ref 37)] [] yS89 11 47576 Q) := ⟨by decide, h⟩
  xi_go 107 [(146, [])] 400 h1
def yS90 : xiS := ([(0, 8), (0, 6), (2, 480), (1, 8), (1, 8), (0, 1), (1, 10), (1, 10), (1, 10), (1, 4), (0, 4), (1, 4), (2, 1024), (2, 100), (0, 3), (0, 0), (2, 20), (0, 0), (2, 20), (0, 0), (2, 20), (0, 7), (0, 0), (2, 20), (0, 0), (2, 20), (0, 5), (1, 4), (1, 4), (1, 4), (2, 4), (0, 2), (1, 10), (1, 11), (1, 11), (1, 121), (1, 121), (0, 9), (2, 46948), (1, 8), (1, 8), (2, 480), (1, 10), (1, 10), (1, 10), (1, 10), (1, 4), (2, 44), (2, 44), (2, 44)], xi_u (xi_z (yS89.2.1) 49 0) 37 15 50, xi_z (yS89.2.2.1) 49 0, xi_z (yS89.2.2.2) 49 0)
set_option maxRecDepth 20000 in
theorem i_95 {L0 : Nat} {xs : Nat → Int32} {Q : xiQ} (h : xi_V (xG L0 xs) 107 154 [some (Value.ref 37)] [] yS90 12 47620 Q) :
    xi_V (xG L0 xs) 107 146 [some (Value.ref 37)] [] yS89 11 47576 Q :=
  have h1 : ¬ (44 : Int32) < 0 ∧ (xi_V (xG L0 xs) 107 154 [some (Value.ref 37)] [] yS90 12 47620 Q) := ⟨by decide, h⟩
  xi_go 107 [(154, [])] 400 h1
def yS91 : xiS := ([(0, 8), (0, 6), (2, 480), (1, 8), (1, 8), (0, 1), (1, 10), (1, 10), (1, 10), (1, 4), (0, 4), (1, 4), (2, 1024), (2, 100), (0, 3), (0, 0), (2, 20), (0, 0), (2, 20), (0, 0), (2, 20), (0, 7), (0, 0), (2, 20), (0, 0), (2, 20), (0, 5), (1, 4), (1, 4), (1, 4), (2, 4), (0, 2), (1, 10), (1, 11), (1, 11), (1, 121), (1, 121), (0, 9), (2, 46948), (1, 8), (1, 8), (2, 480), (1, 10), (1, 10), (1, 10), (1, 10), (1, 4), (2, 44), (2, 44), (2, 44), (1, 41)], xi_u (xi_z (yS90.2.1) 50 0) 37 16 51, xi_z (yS90.2.2.1) 50 0, xi_z (yS90.2.2.2) 50 0)
set_option maxRecDepth 20000 in
theorem i_96 {L0 : Nat} {xs : Nat → Int32} {Q : xiQ} (h : xi_V (xG L0 xs) 107 162 [some (Value.ref 37)] [] yS91 13 47661 Q) :
    xi_V (xG L0 xs) 107 154 [some (Value.ref 37)] [] yS90 12 47620 Q :=
  have h1 : ¬ (41 : Int32) < 0 ∧ (xi_V (xG L0 xs) 107 162 [some (Value.ref 37)] [] yS91 13 47661 Q) := ⟨by decide, h⟩
  xi_go 107 [(162, [])] 400 h1
def yS92 : xiS := ([(0, 8), (0, 6), (2, 480), (1, 8), (1, 8), (0, 1), (1, 10), (1, 10), (1, 10), (1, 4), (0, 4), (1, 4), (2, 1024), (2, 100), (0, 3), (0, 0), (2, 20), (0, 0), (2, 20), (0, 0), (2, 20), (0, 7), (0, 0), (2, 20), (0, 0), (2, 20), (0, 5), (1, 4), (1, 4), (1, 4), (2, 4), (0, 2), (1, 10), (1, 11), (1, 11), (1, 121), (1, 121), (0, 9), (2, 46948), (1, 8), (1, 8), (2, 480), (1, 10), (1, 10), (1, 10), (1, 10), (1, 4), (2, 44), (2, 44), (2, 44), (1, 41), (1, 4)], xi_u (xi_z (yS91.2.1) 51 0) 37 17 52, xi_z (yS91.2.2.1) 51 0, xi_z (yS91.2.2.2) 51 0)
set_option maxRecDepth 20000 in
theorem i_97 {L0 : Nat} {xs : Nat → Int32} {Q : xiQ} (h : xi_V (xG L0 xs) 107 169 [some (Value.ref 37)] [] yS92 14 47665 Q) :
    xi_V (xG L0 xs) 107 162 [some (Value.ref 37)] [] yS91 13 47661 Q :=
  have h1 : ¬ (4 : Int32) < 0 ∧ (xi_V (xG L0 xs) 107 169 [some (Value.ref 37)] [] yS92 14 47665 Q) := ⟨by decide, h⟩
  xi_go 107 [(169, [])] 400 h1
def yS93 : xiS := ([(0, 8), (0, 6), (2, 480), (1, 8), (1, 8), (0, 1), (1, 10), (1, 10), (1, 10), (1, 4), (0, 4), (1, 4), (2, 1024), (2, 100), (0, 3), (0, 0), (2, 20), (0, 0), (2, 20), (0, 0), (2, 20), (0, 7), (0, 0), (2, 20), (0, 0), (2, 20), (0, 5), (1, 4), (1, 4), (1, 4), (2, 4), (0, 2), (1, 10), (1, 11), (1, 11), (1, 121), (1, 121), (0, 9), (2, 46948), (1, 8), (1, 8), (2, 480), (1, 10), (1, 10), (1, 10), (1, 10), (1, 4), (2, 44), (2, 44), (2, 44), (1, 41), (1, 4), (1, 10)], xi_u (xi_z (yS92.2.1) 52 0) 37 19 53, xi_z (yS92.2.2.1) 52 0, xi_z (yS92.2.2.2) 52 0)
set_option maxRecDepth 20000 in
theorem i_98 {L0 : Nat} {xs : Nat → Int32} {Q : xiQ} (h : xi_V (xG L0 xs) 107 177 [some (Value.ref 37)] [] yS93 15 47675 Q) :
    xi_V (xG L0 xs) 107 169 [some (Value.ref 37)] [] yS92 14 47665 Q :=
  have h1 : ¬ (10 : Int32) < 0 ∧ (xi_V (xG L0 xs) 107 177 [some (Value.ref 37)] [] yS93 15 47675 Q) := ⟨by decide, h⟩
  xi_go 107 [(177, [])] 400 h1
set_option maxRecDepth 20000 in
theorem i_99 {L0 : Nat} {xs : Nat → Int32} {Q : xiQ} (h : xi_V (xG L0 xs) 109 0 [some (Value.ref 37), some (Value.int (0 : Int32)), some (Value.long (0 : Int64)), none, none] [] yS93 0 0 (fun r σ' => xi_V (xG L0 xs) 107 183 [some (Value.ref 37)] (r.toList ++ []) σ' 15 47675 Q)) :
    xi_V (xG L0 xs) 107 177 [some (Value.ref 37)] [] yS93 15 47675 Q :=
  have h1 : xi_V (xG L0 xs) 109 0 [some (Value.ref 37), some (Value.int (0 : Int32)), some (Value.long (0 : Int64)), none, none] [] yS93 0 0 (fun r σ' => xi_V (xG L0 xs) 107 183 [some (Value.ref 37)] (r.toList ++ []) σ' 15 47675 Q) := h
  xi_go 107 [(183, [])] 400 h1
set_option maxRecDepth 20000 in
theorem i_101 {L0 : Nat} {xs : Nat → Int32} {Q : xiQ} {I : Nat → Nat → Int32} {L : Nat → Nat → Int64} (h : xi_V (xG L0 xs) 109 0 [some (Value.ref 37), some (Value.int (1 : Int32)), some (Value.long (1 : Int64)), none, none] [] (xSH, xRF, I, L) 0 0 (fun r σ' => xi_V (xG L0 xs) 107 189 [some (Value.ref 37)] (r.toList ++ []) σ' 15 47675 Q)) :
    xi_V (xG L0 xs) 107 183 [some (Value.ref 37)] [] (xSH, xRF, I, L) 15 47675 Q :=
  have h1 : xi_V (xG L0 xs) 109 0 [some (Value.ref 37), some (Value.int (1 : Int32)), some (Value.long (1 : Int64)), none, none] [] (xSH, xRF, I, L) 0 0 (fun r σ' => xi_V (xG L0 xs) 107 189 [some (Value.ref 37)] (r.toList ++ []) σ' 15 47675 Q) := h
  xi_go 107 [(189, [])] 400 h1
set_option maxRecDepth 20000 in
theorem i_103 {L0 : Nat} {xs : Nat → Int32} {Q : xiQ} {I : Nat → Nat → Int32} {L : Nat → Nat → Int64} (h : Q none (xSH, xRF, I, L)) :
    xi_V (xG L0 xs) 107 189 [some (Value.ref 37)] [] (xSH, xRF, I, L) 15 47675 Q :=
  have h1 : Q none (xSH, xRF, I, L) := h
  xi_go 107 [] 400 h1
set_option maxRecDepth 20000 in
theorem i_104 {L0 : Nat} {xs : Nat → Int32} {Q : xiQ} {I : Nat → Nat → Int32} {L : Nat → Nat → Int64} (h : xi_V (xG L0 xs) 173 18 [some (Value.ref 1000000), some (Value.ref 0), some (Value.ref 37), some (Value.int (0 : Int32))] [] (xSH, xRF, I, L) 53 49788 Q) :
    xi_V (xG L0 xs) 173 15 [some (Value.ref 1000000), some (Value.ref 0), none, none] [Value.ref 37] (xSH, xRF, I, L) 53 49788 Q :=
  have h1 : xi_V (xG L0 xs) 173 18 [some (Value.ref 1000000), some (Value.ref 0), some (Value.ref 37), some (Value.int (0 : Int32))] [] (xSH, xRF, I, L) 53 49788 Q := h
  xi_go 173 [(18, [])] 400 h1
def P0 (f : Nat → Nat → Nat) : Prop := ∀ a b, (53 ≤ a ∨ 22 ≤ b) → f a b = 0
theorem P0_z {f : Nat → Nat → Nat} {k : Nat} (h : P0 f) : P0 (xi_z f k 0) := fun a b c => by
  unfold xi_z
  split
  · rfl
  · exact h a b c
theorem P0_u {f : Nat → Nat → Nat} {k j q : Nat} (hk : k < 53) (hj : j < 22) (h : P0 f) : P0 (xi_u f k j q) := fun a b c => by
  unfold xi_u
  by_cases e : a = k
  · rw [if_pos e, if_neg (by omega)]
    exact h k b (by omega)
  · rw [if_neg e]
    exact h a b c
theorem p0_0 : P0 yS0.2.1 := fun _ _ _ => rfl
theorem p0_1 : P0 yS1.2.1 := by
  show P0 (xi_z (yS0.2.1) 0 0)
  repeat (first | exact p0_0 | refine P0_u (by decide) (by decide) ?_ | refine P0_z ?_)
theorem p0_2 : P0 yS2.2.1 := by
  show P0 (xi_z (yS1.2.1) 1 0)
  repeat (first | exact p0_1 | refine P0_u (by decide) (by decide) ?_ | refine P0_z ?_)
theorem p0_3 : P0 yS3.2.1 := by
  show P0 (xi_u (xi_z (yS2.2.1) 2 0) 1 0 3)
  repeat (first | exact p0_2 | refine P0_u (by decide) (by decide) ?_ | refine P0_z ?_)
theorem p0_4 : P0 yS4.2.1 := by
  show P0 (xi_u (xi_z (yS3.2.1) 3 0) 1 1 4)
  repeat (first | exact p0_3 | refine P0_u (by decide) (by decide) ?_ | refine P0_z ?_)
theorem p0_5 : P0 yS5.2.1 := by
  show P0 (xi_u (xi_z (yS4.2.1) 4 0) 1 2 5)
  repeat (first | exact p0_4 | refine P0_u (by decide) (by decide) ?_ | refine P0_z ?_)
theorem p0_6 : P0 yS6.2.1 := by
  show P0 (yS5.2.1)
  repeat (first | exact p0_5 | refine P0_u (by decide) (by decide) ?_ | refine P0_z ?_)
theorem p0_7 : P0 yS7.2.1 := by
  show P0 (yS6.2.1)
  repeat (first | exact p0_6 | refine P0_u (by decide) (by decide) ?_ | refine P0_z ?_)
theorem p0_8 : P0 yS8.2.1 := by
  show P0 (yS7.2.1)
  repeat (first | exact p0_7 | refine P0_u (by decide) (by decide) ?_ | refine P0_z ?_)
theorem p0_9 : P0 yS9.2.1 := by
  show P0 (yS8.2.1)
  repeat (first | exact p0_8 | refine P0_u (by decide) (by decide) ?_ | refine P0_z ?_)
theorem p0_10 : P0 yS10.2.1 := by
  show P0 (yS9.2.1)
  repeat (first | exact p0_9 | refine P0_u (by decide) (by decide) ?_ | refine P0_z ?_)
theorem p0_11 : P0 yS11.2.1 := by
  show P0 (yS10.2.1)
  repeat (first | exact p0_10 | refine P0_u (by decide) (by decide) ?_ | refine P0_z ?_)
theorem p0_12 : P0 yS12.2.1 := by
  show P0 (yS11.2.1)
  repeat (first | exact p0_11 | refine P0_u (by decide) (by decide) ?_ | refine P0_z ?_)
theorem p0_13 : P0 yS13.2.1 := by
  show P0 (yS12.2.1)
  repeat (first | exact p0_12 | refine P0_u (by decide) (by decide) ?_ | refine P0_z ?_)
theorem p0_14 : P0 yS14.2.1 := by
  show P0 (xi_u (yS13.2.1) 0 0 2)
  repeat (first | exact p0_13 | refine P0_u (by decide) (by decide) ?_ | refine P0_z ?_)
theorem p0_15 : P0 yS15.2.1 := by
  show P0 (xi_z (yS14.2.1) 5 0)
  repeat (first | exact p0_14 | refine P0_u (by decide) (by decide) ?_ | refine P0_z ?_)
theorem p0_16 : P0 yS16.2.1 := by
  show P0 (xi_u (xi_z (yS15.2.1) 6 0) 5 1 7)
  repeat (first | exact p0_15 | refine P0_u (by decide) (by decide) ?_ | refine P0_z ?_)
theorem p0_17 : P0 yS17.2.1 := by
  show P0 (xi_u (xi_z (yS16.2.1) 7 0) 5 2 8)
  repeat (first | exact p0_16 | refine P0_u (by decide) (by decide) ?_ | refine P0_z ?_)
theorem p0_18 : P0 yS18.2.1 := by
  show P0 (xi_u (xi_z (yS17.2.1) 8 0) 5 3 9)
  repeat (first | exact p0_17 | refine P0_u (by decide) (by decide) ?_ | refine P0_z ?_)
theorem p0_19 : P0 yS19.2.1 := by
  show P0 (xi_u (xi_z (yS18.2.1) 9 0) 5 4 10)
  repeat (first | exact p0_18 | refine P0_u (by decide) (by decide) ?_ | refine P0_z ?_)
theorem p0_20 : P0 yS20.2.1 := by
  show P0 (yS19.2.1)
  repeat (first | exact p0_19 | refine P0_u (by decide) (by decide) ?_ | refine P0_z ?_)
theorem p0_21 : P0 yS21.2.1 := by
  show P0 (yS20.2.1)
  repeat (first | exact p0_20 | refine P0_u (by decide) (by decide) ?_ | refine P0_z ?_)
theorem p0_22 : P0 yS22.2.1 := by
  show P0 (yS21.2.1)
  repeat (first | exact p0_21 | refine P0_u (by decide) (by decide) ?_ | refine P0_z ?_)
theorem p0_23 : P0 yS23.2.1 := by
  show P0 (xi_u (yS22.2.1) 0 1 6)
  repeat (first | exact p0_22 | refine P0_u (by decide) (by decide) ?_ | refine P0_z ?_)
theorem p0_24 : P0 yS24.2.1 := by
  show P0 (xi_z (yS23.2.1) 10 0)
  repeat (first | exact p0_23 | refine P0_u (by decide) (by decide) ?_ | refine P0_z ?_)
theorem p0_25 : P0 yS25.2.1 := by
  show P0 (yS24.2.1)
  repeat (first | exact p0_24 | refine P0_u (by decide) (by decide) ?_ | refine P0_z ?_)
theorem p0_26 : P0 yS26.2.1 := by
  show P0 (yS25.2.1)
  repeat (first | exact p0_25 | refine P0_u (by decide) (by decide) ?_ | refine P0_z ?_)
theorem p0_27 : P0 yS27.2.1 := by
  show P0 (xi_u (xi_z (yS26.2.1) 11 0) 10 2 12)
  repeat (first | exact p0_26 | refine P0_u (by decide) (by decide) ?_ | refine P0_z ?_)
theorem p0_28 : P0 yS28.2.1 := by
  show P0 (yS27.2.1)
  repeat (first | exact p0_27 | refine P0_u (by decide) (by decide) ?_ | refine P0_z ?_)
theorem p0_29 : P0 yS29.2.1 := by
  show P0 (xi_u (xi_z (yS28.2.1) 12 0) 10 4 13)
  repeat (first | exact p0_28 | refine P0_u (by decide) (by decide) ?_ | refine P0_z ?_)
theorem p0_30 : P0 yS30.2.1 := by
  show P0 (xi_u (xi_z (yS29.2.1) 13 0) 10 5 14)
  repeat (first | exact p0_29 | refine P0_u (by decide) (by decide) ?_ | refine P0_z ?_)
theorem p0_31 : P0 yS31.2.1 := by
  show P0 (yS30.2.1)
  repeat (first | exact p0_30 | refine P0_u (by decide) (by decide) ?_ | refine P0_z ?_)
theorem p0_32 : P0 yS32.2.1 := by
  show P0 (xi_u (yS31.2.1) 0 2 11)
  repeat (first | exact p0_31 | refine P0_u (by decide) (by decide) ?_ | refine P0_z ?_)
theorem p0_33 : P0 yS33.2.1 := by
  show P0 (xi_z (yS32.2.1) 14 0)
  repeat (first | exact p0_32 | refine P0_u (by decide) (by decide) ?_ | refine P0_z ?_)
theorem p0_34 : P0 yS34.2.1 := by
  show P0 (xi_z (yS33.2.1) 15 0)
  repeat (first | exact p0_33 | refine P0_u (by decide) (by decide) ?_ | refine P0_z ?_)
theorem p0_35 : P0 yS35.2.1 := by
  show P0 (xi_u (xi_z (yS34.2.1) 16 0) 15 0 17)
  repeat (first | exact p0_34 | refine P0_u (by decide) (by decide) ?_ | refine P0_z ?_)
theorem p0_36 : P0 yS36.2.1 := by
  show P0 (xi_u (yS35.2.1) 14 1 16)
  repeat (first | exact p0_35 | refine P0_u (by decide) (by decide) ?_ | refine P0_z ?_)
theorem p0_37 : P0 yS37.2.1 := by
  show P0 (xi_z (yS36.2.1) 17 0)
  repeat (first | exact p0_36 | refine P0_u (by decide) (by decide) ?_ | refine P0_z ?_)
theorem p0_38 : P0 yS38.2.1 := by
  show P0 (xi_u (xi_z (yS37.2.1) 18 0) 17 0 19)
  repeat (first | exact p0_37 | refine P0_u (by decide) (by decide) ?_ | refine P0_z ?_)
theorem p0_39 : P0 yS39.2.1 := by
  show P0 (xi_u (yS38.2.1) 14 2 18)
  repeat (first | exact p0_38 | refine P0_u (by decide) (by decide) ?_ | refine P0_z ?_)
theorem p0_40 : P0 yS40.2.1 := by
  show P0 (xi_z (yS39.2.1) 19 0)
  repeat (first | exact p0_39 | refine P0_u (by decide) (by decide) ?_ | refine P0_z ?_)
theorem p0_41 : P0 yS41.2.1 := by
  show P0 (xi_u (xi_z (yS40.2.1) 20 0) 19 0 21)
  repeat (first | exact p0_40 | refine P0_u (by decide) (by decide) ?_ | refine P0_z ?_)
theorem p0_42 : P0 yS42.2.1 := by
  show P0 (xi_u (yS41.2.1) 14 3 20)
  repeat (first | exact p0_41 | refine P0_u (by decide) (by decide) ?_ | refine P0_z ?_)
theorem p0_43 : P0 yS43.2.1 := by
  show P0 (yS42.2.1)
  repeat (first | exact p0_42 | refine P0_u (by decide) (by decide) ?_ | refine P0_z ?_)
theorem p0_44 : P0 yS44.2.1 := by
  show P0 (xi_u (yS43.2.1) 0 3 15)
  repeat (first | exact p0_43 | refine P0_u (by decide) (by decide) ?_ | refine P0_z ?_)
theorem p0_45 : P0 yS45.2.1 := by
  show P0 (xi_z (yS44.2.1) 21 0)
  repeat (first | exact p0_44 | refine P0_u (by decide) (by decide) ?_ | refine P0_z ?_)
theorem p0_46 : P0 yS46.2.1 := by
  show P0 (xi_z (yS45.2.1) 22 0)
  repeat (first | exact p0_45 | refine P0_u (by decide) (by decide) ?_ | refine P0_z ?_)
theorem p0_47 : P0 yS47.2.1 := by
  show P0 (xi_u (xi_z (yS46.2.1) 23 0) 22 0 24)
  repeat (first | exact p0_46 | refine P0_u (by decide) (by decide) ?_ | refine P0_z ?_)
theorem p0_48 : P0 yS48.2.1 := by
  show P0 (xi_u (yS47.2.1) 21 0 23)
  repeat (first | exact p0_47 | refine P0_u (by decide) (by decide) ?_ | refine P0_z ?_)
theorem p0_49 : P0 yS49.2.1 := by
  show P0 (xi_z (yS48.2.1) 24 0)
  repeat (first | exact p0_48 | refine P0_u (by decide) (by decide) ?_ | refine P0_z ?_)
theorem p0_50 : P0 yS50.2.1 := by
  show P0 (xi_u (xi_z (yS49.2.1) 25 0) 24 0 26)
  repeat (first | exact p0_49 | refine P0_u (by decide) (by decide) ?_ | refine P0_z ?_)
theorem p0_51 : P0 yS51.2.1 := by
  show P0 (xi_u (yS50.2.1) 21 1 25)
  repeat (first | exact p0_50 | refine P0_u (by decide) (by decide) ?_ | refine P0_z ?_)
theorem p0_52 : P0 yS52.2.1 := by
  show P0 (xi_u (yS51.2.1) 0 4 22)
  repeat (first | exact p0_51 | refine P0_u (by decide) (by decide) ?_ | refine P0_z ?_)
theorem p0_53 : P0 yS53.2.1 := by
  show P0 (xi_z (yS52.2.1) 26 0)
  repeat (first | exact p0_52 | refine P0_u (by decide) (by decide) ?_ | refine P0_z ?_)
theorem p0_54 : P0 yS54.2.1 := by
  show P0 (xi_u (xi_z (yS53.2.1) 27 0) 26 0 28)
  repeat (first | exact p0_53 | refine P0_u (by decide) (by decide) ?_ | refine P0_z ?_)
theorem p0_55 : P0 yS55.2.1 := by
  show P0 (xi_u (xi_z (yS54.2.1) 28 0) 26 2 29)
  repeat (first | exact p0_54 | refine P0_u (by decide) (by decide) ?_ | refine P0_z ?_)
theorem p0_56 : P0 yS56.2.1 := by
  show P0 (xi_u (xi_z (yS55.2.1) 29 0) 26 3 30)
  repeat (first | exact p0_55 | refine P0_u (by decide) (by decide) ?_ | refine P0_z ?_)
theorem p0_57 : P0 yS57.2.1 := by
  show P0 (xi_u (xi_z (yS56.2.1) 30 0) 26 4 31)
  repeat (first | exact p0_56 | refine P0_u (by decide) (by decide) ?_ | refine P0_z ?_)
theorem p0_58 : P0 yS58.2.1 := by
  show P0 (xi_u (yS57.2.1) 0 5 27)
  repeat (first | exact p0_57 | refine P0_u (by decide) (by decide) ?_ | refine P0_z ?_)
theorem p0_59 : P0 yS59.2.1 := by
  show P0 (xi_z (yS58.2.1) 31 0)
  repeat (first | exact p0_58 | refine P0_u (by decide) (by decide) ?_ | refine P0_z ?_)
theorem p0_60 : P0 yS60.2.1 := by
  show P0 (xi_u (xi_z (yS59.2.1) 32 0) 31 0 33)
  repeat (first | exact p0_59 | refine P0_u (by decide) (by decide) ?_ | refine P0_z ?_)
theorem p0_61 : P0 yS61.2.1 := by
  show P0 (xi_u (xi_z (yS60.2.1) 33 0) 31 1 34)
  repeat (first | exact p0_60 | refine P0_u (by decide) (by decide) ?_ | refine P0_z ?_)
theorem p0_62 : P0 yS62.2.1 := by
  show P0 (xi_u (xi_z (yS61.2.1) 34 0) 31 2 35)
  repeat (first | exact p0_61 | refine P0_u (by decide) (by decide) ?_ | refine P0_z ?_)
theorem p0_63 : P0 yS63.2.1 := by
  show P0 (xi_u (xi_z (yS62.2.1) 35 0) 31 3 36)
  repeat (first | exact p0_62 | refine P0_u (by decide) (by decide) ?_ | refine P0_z ?_)
theorem p0_64 : P0 yS64.2.1 := by
  show P0 (xi_u (xi_z (yS63.2.1) 36 0) 31 4 37)
  repeat (first | exact p0_63 | refine P0_u (by decide) (by decide) ?_ | refine P0_z ?_)
theorem p0_65 : P0 yS65.2.1 := by
  show P0 (xi_u (yS64.2.1) 0 6 32)
  repeat (first | exact p0_64 | refine P0_u (by decide) (by decide) ?_ | refine P0_z ?_)
theorem p0_66 : P0 yS66.2.1 := by
  show P0 (xi_z (yS65.2.1) 37 0)
  repeat (first | exact p0_65 | refine P0_u (by decide) (by decide) ?_ | refine P0_z ?_)
theorem p0_67 : P0 yS67.2.1 := by
  show P0 (xi_u (xi_z (yS66.2.1) 38 0) 37 0 39)
  repeat (first | exact p0_66 | refine P0_u (by decide) (by decide) ?_ | refine P0_z ?_)
theorem p0_68 : P0 yS68.2.1 := by
  show P0 (xi_u (xi_z (yS67.2.1) 39 0) 37 2 40)
  repeat (first | exact p0_67 | refine P0_u (by decide) (by decide) ?_ | refine P0_z ?_)
theorem p0_69 : P0 yS69.2.1 := by
  show P0 (xi_u (xi_z (yS68.2.1) 40 0) 37 3 41)
  repeat (first | exact p0_68 | refine P0_u (by decide) (by decide) ?_ | refine P0_z ?_)
theorem p0_70 : P0 yS70.2.1 := by
  show P0 (xi_u (xi_z (yS69.2.1) 41 0) 37 4 42)
  repeat (first | exact p0_69 | refine P0_u (by decide) (by decide) ?_ | refine P0_z ?_)
theorem p0_71 : P0 yS71.2.1 := by
  show P0 (yS70.2.1)
  repeat (first | exact p0_70 | refine P0_u (by decide) (by decide) ?_ | refine P0_z ?_)
theorem p0_72 : P0 yS72.2.1 := by
  show P0 (xi_u (xi_z (yS71.2.1) 42 0) 37 6 43)
  repeat (first | exact p0_71 | refine P0_u (by decide) (by decide) ?_ | refine P0_z ?_)
theorem p0_73 : P0 yS73.2.1 := by
  show P0 (xi_z (yS72.2.1) 43 0)
  repeat (first | exact p0_72 | refine P0_u (by decide) (by decide) ?_ | refine P0_z ?_)
theorem p0_74 : P0 yS74.2.1 := by
  show P0 (yS73.2.1)
  repeat (first | exact p0_73 | refine P0_u (by decide) (by decide) ?_ | refine P0_z ?_)
theorem p0_75 : P0 yS75.2.1 := by
  show P0 (yS74.2.1)
  repeat (first | exact p0_74 | refine P0_u (by decide) (by decide) ?_ | refine P0_z ?_)
theorem p0_76 : P0 yS76.2.1 := by
  show P0 (yS75.2.1)
  repeat (first | exact p0_75 | refine P0_u (by decide) (by decide) ?_ | refine P0_z ?_)
theorem p0_77 : P0 yS77.2.1 := by
  show P0 (yS76.2.1)
  repeat (first | exact p0_76 | refine P0_u (by decide) (by decide) ?_ | refine P0_z ?_)
theorem p0_78 : P0 yS78.2.1 := by
  show P0 (yS77.2.1)
  repeat (first | exact p0_77 | refine P0_u (by decide) (by decide) ?_ | refine P0_z ?_)
theorem p0_79 : P0 yS79.2.1 := by
  show P0 (yS78.2.1)
  repeat (first | exact p0_78 | refine P0_u (by decide) (by decide) ?_ | refine P0_z ?_)
theorem p0_80 : P0 yS80.2.1 := by
  show P0 (yS79.2.1)
  repeat (first | exact p0_79 | refine P0_u (by decide) (by decide) ?_ | refine P0_z ?_)
theorem p0_81 : P0 yS81.2.1 := by
  show P0 (yS80.2.1)
  repeat (first | exact p0_80 | refine P0_u (by decide) (by decide) ?_ | refine P0_z ?_)
theorem p0_82 : P0 yS82.2.1 := by
  show P0 (yS81.2.1)
  repeat (first | exact p0_81 | refine P0_u (by decide) (by decide) ?_ | refine P0_z ?_)
theorem p0_83 : P0 yS83.2.1 := by
  show P0 (xi_u (yS82.2.1) 37 7 44)
  repeat (first | exact p0_82 | refine P0_u (by decide) (by decide) ?_ | refine P0_z ?_)
theorem p0_84 : P0 yS84.2.1 := by
  show P0 (xi_u (xi_z (yS83.2.1) 44 0) 37 8 45)
  repeat (first | exact p0_83 | refine P0_u (by decide) (by decide) ?_ | refine P0_z ?_)
theorem p0_85 : P0 yS85.2.1 := by
  show P0 (xi_u (xi_z (yS84.2.1) 45 0) 37 9 46)
  repeat (first | exact p0_84 | refine P0_u (by decide) (by decide) ?_ | refine P0_z ?_)
theorem p0_86 : P0 yS86.2.1 := by
  show P0 (xi_u (xi_z (yS85.2.1) 46 0) 37 10 47)
  repeat (first | exact p0_85 | refine P0_u (by decide) (by decide) ?_ | refine P0_z ?_)
theorem p0_87 : P0 yS87.2.1 := by
  show P0 (yS86.2.1)
  repeat (first | exact p0_86 | refine P0_u (by decide) (by decide) ?_ | refine P0_z ?_)
theorem p0_88 : P0 yS88.2.1 := by
  show P0 (xi_u (xi_z (yS87.2.1) 47 0) 37 13 48)
  repeat (first | exact p0_87 | refine P0_u (by decide) (by decide) ?_ | refine P0_z ?_)
theorem p0_89 : P0 yS89.2.1 := by
  show P0 (xi_u (xi_z (yS88.2.1) 48 0) 37 14 49)
  repeat (first | exact p0_88 | refine P0_u (by decide) (by decide) ?_ | refine P0_z ?_)
theorem p0_90 : P0 yS90.2.1 := by
  show P0 (xi_u (xi_z (yS89.2.1) 49 0) 37 15 50)
  repeat (first | exact p0_89 | refine P0_u (by decide) (by decide) ?_ | refine P0_z ?_)
theorem p0_91 : P0 yS91.2.1 := by
  show P0 (xi_u (xi_z (yS90.2.1) 50 0) 37 16 51)
  repeat (first | exact p0_90 | refine P0_u (by decide) (by decide) ?_ | refine P0_z ?_)
theorem p0_92 : P0 yS92.2.1 := by
  show P0 (xi_u (xi_z (yS91.2.1) 51 0) 37 17 52)
  repeat (first | exact p0_91 | refine P0_u (by decide) (by decide) ?_ | refine P0_z ?_)
theorem p0_93 : P0 yS93.2.1 := by
  show P0 (xi_u (xi_z (yS92.2.1) 52 0) 37 19 53)
  repeat (first | exact p0_92 | refine P0_u (by decide) (by decide) ?_ | refine P0_z ?_)
theorem y_fin : ∀ a : Fin 53, ∀ b : Fin 22, yS93.2.1 a.val b.val = xRF a.val b.val := by decide +kernel
theorem y_far : P0 xRF := by
  intro a b c
  have hl : xRFl.length = 53 := by decide
  have hr : ∀ r ∈ xRFl, r.length ≤ 22 := by decide
  unfold xRF
  by_cases e : 53 ≤ a
  · rw [List.getD_eq_getElem?_getD, List.getD_eq_getElem?_getD, List.getElem?_eq_none (l := xRFl) (by omega)]
    rfl
  · have h2 : (xRFl.getD a []).length ≤ 22 := by
      rw [List.getD_eq_getElem?_getD, List.getElem?_eq_getElem (by omega)]
      exact hr _ (List.getElem_mem _)
    rw [List.getD_eq_getElem?_getD, List.getElem?_eq_none (by omega)]
    rfl
theorem y_RF : yS93.2.1 = xRF := by
  funext a b
  by_cases c : a < 53 ∧ b < 22
  · exact y_fin ⟨a, c.1⟩ ⟨b, c.2⟩
  · rw [p0_93 a b (by omega), y_far a b (by omega)]
def yI : Nat → Nat → Int32 := yS93.2.2.1
def yL : Nat → Nat → Int64 := yS93.2.2.2
theorem y_S : yS93 = (xSH, xRF, yI, yL) := by
  have h1 : yS93.1 = xSH := by decide +kernel
  have h2 := y_RF
  unfold yI yL
  rw [← h1, ← h2]
theorem y_law {L0 : Nat} {xs : Nat → Int32} {Q : xiQ} (h : ∀ g g2 : Nat → Int64, mF (yL 38) g 0 → Nm g 0 0 → mF g g2 1 → Nm g2 1 1 → xi_V (xG L0 xs) 173 18 [some (Value.ref 1000000), some (Value.ref 0), some (Value.ref 37), some (Value.int (0 : Int32))] [] (xSH, xRF, yI, mL yL g2 (yL 47) (yL 48) (yL 49)) 53 49788 Q) :
    xi_V (xG L0 xs) 173 0 [some (Value.ref 1000000), none, none, none] [] ([], fun _ _ => 0, fun _ _ => 0, fun _ _ => 0) 0 0 Q := by
  refine i_0 ?_
  refine i_1 ?_
  refine i_2 ?_
  refine i_3 ?_
  refine i_4 ?_
  refine i_5 ?_
  refine i_6 ?_
  refine i_7 ?_
  refine i_8 ?_
  refine i_9 ?_
  refine i_10 ?_
  refine i_11 ?_
  refine i_12 ?_
  refine i_13 ?_
  refine i_14 ?_
  refine i_15 ?_
  refine i_16 ?_
  refine i_17 ?_
  refine i_18 ?_
  refine i_19 ?_
  refine i_20 ?_
  refine i_21 ?_
  refine i_22 ?_
  refine i_23 ?_
  refine i_24 ?_
  refine i_25 ?_
  refine i_26 ?_
  refine i_27 ?_
  refine i_28 ?_
  refine i_29 ?_
  refine i_30 ?_
  refine i_31 ?_
  refine i_32 ?_
  refine i_33 ?_
  refine i_34 ?_
  refine i_35 ?_
  refine i_36 ?_
  refine i_37 ?_
  refine i_38 ?_
  refine i_39 ?_
  refine i_40 ?_
  refine i_41 ?_
  refine i_42 ?_
  refine i_43 ?_
  refine i_44 ?_
  refine i_45 ?_
  refine i_46 ?_
  refine i_47 ?_
  refine i_48 ?_
  refine i_49 ?_
  refine i_50 ?_
  refine i_51 ?_
  refine i_52 ?_
  refine i_53 ?_
  refine i_54 ?_
  refine i_55 ?_
  refine i_56 ?_
  refine i_57 ?_
  refine i_58 ?_
  refine i_59 ?_
  refine i_60 ?_
  refine i_61 ?_
  refine i_62 ?_
  refine i_63 ?_
  refine i_64 ?_
  refine i_65 ?_
  refine i_66 ?_
  refine i_67 ?_
  refine i_68 ?_
  refine i_69 ?_
  refine i_70 ?_
  refine i_71 ?_
  refine i_72 ?_
  refine i_73 ?_
  refine i_74 ?_
  refine i_75 ?_
  refine i_76 ?_
  refine i_77 ?_
  refine i_78 ?_
  refine i_79 ?_
  refine i_80 ?_
  refine i_81 ?_
  refine i_82 ?_
  refine i_83 ?_
  refine i_84 ?_
  refine i_85 ?_
  refine i_86 ?_
  refine i_87 ?_
  refine i_88 ?_
  refine i_89 ?_
  refine i_90 ?_
  refine i_91 ?_
  refine i_92 ?_
  refine i_93 ?_
  refine i_94 ?_
  refine i_95 ?_
  refine i_96 ?_
  refine i_97 ?_
  refine i_98 ?_
  refine i_99 ?_
  rw [y_S, ← mL_0 (L := yL)]
  refine c_put (a := 0) (w := 0) (by decide) (by decide) (fun g f1 n1 => ?_)
  refine i_101 ?_
  refine c_put (a := 1) (w := 1) (by decide) (by decide) (fun g2 f2 n2 => ?_)
  refine i_103 ?_
  refine i_104 ?_
  exact h g g2 f1 n1 f2 n2
