theorem b_D_row_0 {L0 : Nat} {xs : Nat → Int32} {Q : xiQ} {I : Nat → Nat → Int32} {L : Nat → Nat → Int64} {v1 : Int32} {v2 : Int32} {v3 : Int32}
    (h : xi_V (xG L0 xs) 94 0 [some (Value.int v1)] [] (xSH, xRF, I, L) 0 0 (fun r σ' => xi_V (xG L0 xs) 71 4 [some (Value.ref 0), some (Value.int v1), some (Value.int v2), some (Value.int v3)] (r.toList ++ []) σ' 0 0 Q)) :
    xi_V (xG L0 xs) 71 0 [some (Value.ref 0), some (Value.int v1), some (Value.int v2), some (Value.int v3)] [] (xSH, xRF, I, L) 0 0 Q := xi_go 71 [(4, [])] 400 (h)
theorem b_D_row_4 {L0 : Nat} {xs : Nat → Int32} {Q : xiQ} {I : Nat → Nat → Int32} {L : Nat → Nat → Int64} {v1 : Int32} {v2 : Int32} {v3 : Int32} {s0 : Int32}
    (h : ((s0 = (0 : Int32) → Q (some (Value.int (-2 : Int32))) (xSH, xRF, I, L)) ∧ (¬ s0 = (0 : Int32) → ((v2 < (0 : Int32) → Q (some (Value.int (-2 : Int32))) (xSH, xRF, I, L)) ∧ (¬ v2 < (0 : Int32) → (((4 : Int32) ≤ v2 → Q (some (Value.int (-2 : Int32))) (xSH, xRF, I, L)) ∧ (¬ (4 : Int32) ≤ v2 → ((v3 ≤ (60 : Int32) → (((0 : Int32) ≤ v3 → xi_V (xG L0 xs) 61 0 [some (Value.ref 1), some (Value.int v1), some (Value.int v2), some (Value.int v3), none] [] (xSH, xRF, I, L) 0 0 (fun r σ' => xi_V (xG L0 xs) 71 42 [some (Value.ref 0), some (Value.int v1), some (Value.int v2), some (Value.int v3)] (r.toList ++ []) σ' 0 0 Q)) ∧ (¬ (0 : Int32) ≤ v3 → Q (some (Value.int (-3 : Int32))) (xSH, xRF, I, L)))) ∧ (¬ v3 ≤ (60 : Int32) → Q (some (Value.int (-2 : Int32))) (xSH, xRF, I, L)))))))))) :
    xi_V (xG L0 xs) 71 4 [some (Value.ref 0), some (Value.int v1), some (Value.int v2), some (Value.int v3)] [Value.int s0] (xSH, xRF, I, L) 0 0 Q := xi_go 71 [(42, [])] 400 (h)
theorem b_D_row_42 {L0 : Nat} {xs : Nat → Int32} {Q : xiQ} {I : Nat → Nat → Int32} {L : Nat → Nat → Int64} {v1 : Int32} {v2 : Int32} {v3 : Int32}
    (h : Q (some (Value.int (0 : Int32))) (xSH, xRF, I, L)) :
    xi_V (xG L0 xs) 71 42 [some (Value.ref 0), some (Value.int v1), some (Value.int v2), some (Value.int v3)] [] (xSH, xRF, I, L) 0 0 Q := xi_go 71 [] 400 (h)
theorem b_D_tear_0 {L0 : Nat} {xs : Nat → Int32} {Q : xiQ} {I : Nat → Nat → Int32} {L : Nat → Nat → Int64} {v1 : Int32}
    (h : xi_V (xG L0 xs) 94 0 [some (Value.int v1)] [] (xSH, xRF, I, L) 0 0 (fun r σ' => xi_V (xG L0 xs) 72 4 [some (Value.ref 0), some (Value.int v1)] (r.toList ++ []) σ' 0 0 Q)) :
    xi_V (xG L0 xs) 72 0 [some (Value.ref 0), some (Value.int v1)] [] (xSH, xRF, I, L) 0 0 Q := xi_go 72 [(4, [])] 400 (h)
theorem b_D_tear_4 {L0 : Nat} {xs : Nat → Int32} {Q : xiQ} {I : Nat → Nat → Int32} {L : Nat → Nat → Int64} {v1 : Int32} {s0 : Int32}
    (h : ((s0 = (0 : Int32) → (((0 : Int32) = 0 ∨ (0 : Int32) = 1) ∧ Q (some (Value.int (0 : Int32))) (xSH, xRF, I, L))) ∧ (¬ s0 = (0 : Int32) → xi_V (xG L0 xs) 59 0 [some (Value.ref 1), some (Value.int v1)] [] (xSH, xRF, I, L) 0 0 (fun r σ' => xi_V (xG L0 xs) 72 15 [some (Value.ref 0), some (Value.int v1)] (r.toList ++ []) σ' 0 0 Q)))) :
    xi_V (xG L0 xs) 72 4 [some (Value.ref 0), some (Value.int v1)] [Value.int s0] (xSH, xRF, I, L) 0 0 Q := xi_go 72 [(15, [])] 400 (h)
theorem b_D_tear_15 {L0 : Nat} {xs : Nat → Int32} {Q : xiQ} {I : Nat → Nat → Int32} {L : Nat → Nat → Int64} {v1 : Int32} {s0 : Int32}
    (h : ((¬ s0 = (0 : Int32) → vp_in v1 8 ∧ ((((1 : Int32) = 0 ∨ (1 : Int32) = 1) ∧ Q (some (Value.int (1 : Int32))) (xSH, xRF, xi_u I 4 v1.toNatClampNeg (-1 : Int32), L)))) ∧ (s0 = (0 : Int32) → (((0 : Int32) = 0 ∨ (0 : Int32) = 1) ∧ Q (some (Value.int (0 : Int32))) (xSH, xRF, I, L))))) :
    xi_V (xG L0 xs) 72 15 [some (Value.ref 0), some (Value.int v1)] [Value.int s0] (xSH, xRF, I, L) 0 0 Q := xi_go 72 [] 400 (h)
theorem b_D_write_0 {L0 : Nat} {xs : Nat → Int32} {Q : xiQ} {I : Nat → Nat → Int32} {L : Nat → Nat → Int64} {v1 : Int32} {v2 : Int32} {w3 : Int64}
    (h : xi_V (xG L0 xs) 94 0 [some (Value.int v1)] [] (xSH, xRF, I, L) 0 0 (fun r σ' => xi_V (xG L0 xs) 73 4 [some (Value.ref 0), some (Value.int v1), some (Value.int v2), some (Value.long w3), none] (r.toList ++ []) σ' 0 0 Q)) :
    xi_V (xG L0 xs) 73 0 [some (Value.ref 0), some (Value.int v1), some (Value.int v2), some (Value.long w3), none] [] (xSH, xRF, I, L) 0 0 Q := xi_go 73 [(4, [])] 400 (h)
theorem b_D_write_4 {L0 : Nat} {xs : Nat → Int32} {Q : xiQ} {I : Nat → Nat → Int32} {L : Nat → Nat → Int64} {v1 : Int32} {v2 : Int32} {w3 : Int64} {s0 : Int32}
    (h : ((¬ s0 = (0 : Int32) → xi_V (xG L0 xs) 59 0 [some (Value.ref 1), some (Value.int v1)] [] (xSH, xRF, I, L) 0 0 (fun r σ' => xi_V (xG L0 xs) 73 18 [some (Value.ref 0), some (Value.int v1), some (Value.int v2), some (Value.long w3), none] (r.toList ++ []) σ' 0 0 Q)) ∧ (s0 = (0 : Int32) → Q (some (Value.int (-2 : Int32))) (xSH, xRF, I, L)))) :
    xi_V (xG L0 xs) 73 4 [some (Value.ref 0), some (Value.int v1), some (Value.int v2), some (Value.long w3), none] [Value.int s0] (xSH, xRF, I, L) 0 0 Q := xi_go 73 [(18, [])] 400 (h)
theorem b_D_write_18 {L0 : Nat} {xs : Nat → Int32} {Q : xiQ} {I : Nat → Nat → Int32} {L : Nat → Nat → Int64} {v1 : Int32} {v2 : Int32} {w3 : Int64} {s0 : Int32}
    (h : ((¬ s0 = (0 : Int32) → ((v2 < (0 : Int32) → Q (some (Value.int (-6 : Int32))) (xSH, xRF, I, L)) ∧ (¬ v2 < (0 : Int32) → vp_in v1 8 ∧ (((v2 < (I 4 v1.toNatClampNeg) → xi_V (xG L0 xs) 63 0 [some (Value.ref 1), some (Value.int v1), some (Value.int v2), some (Value.long w3), none] [] (xSH, xRF, I, L) 0 0 (fun r σ' => xi_V (xG L0 xs) 73 54 [some (Value.ref 0), some (Value.int v1), some (Value.int v2), some (Value.long w3), none] (r.toList ++ []) σ' 0 0 Q)) ∧ (¬ v2 < (I 4 v1.toNatClampNeg) → Q (some (Value.int (-6 : Int32))) (xSH, xRF, I, L))))))) ∧ (s0 = (0 : Int32) → Q (some (Value.int (-5 : Int32))) (xSH, xRF, I, L)))) :
    xi_V (xG L0 xs) 73 18 [some (Value.ref 0), some (Value.int v1), some (Value.int v2), some (Value.long w3), none] [Value.int s0] (xSH, xRF, I, L) 0 0 Q := xi_go 73 [(54, [])] 400 (h)
theorem b_D_write_54 {L0 : Nat} {xs : Nat → Int32} {Q : xiQ} {I : Nat → Nat → Int32} {L : Nat → Nat → Int64} {v1 : Int32} {v2 : Int32} {w3 : Int64}
    (h : Q (some (Value.int (0 : Int32))) (xSH, xRF, I, L)) :
    xi_V (xG L0 xs) 73 54 [some (Value.ref 0), some (Value.int v1), some (Value.int v2), some (Value.long w3), none] [] (xSH, xRF, I, L) 0 0 Q := xi_go 73 [] 400 (h)
theorem b_D_crowd_0 {L0 : Nat} {xs : Nat → Int32} {Q : xiQ} {I : Nat → Nat → Int32} {L : Nat → Nat → Int64} {v1 : Int32}
    (h : xi_V (xG L0 xs) 94 0 [some (Value.int v1)] [] (xSH, xRF, I, L) 0 0 (fun r σ' => xi_V (xG L0 xs) 74 4 [some (Value.ref 0), some (Value.int v1), none] (r.toList ++ []) σ' 0 0 Q)) :
    xi_V (xG L0 xs) 74 0 [some (Value.ref 0), some (Value.int v1), none] [] (xSH, xRF, I, L) 0 0 Q := xi_go 74 [(4, [])] 400 (h)
theorem b_D_crowd_4 {L0 : Nat} {xs : Nat → Int32} {Q : xiQ} {I : Nat → Nat → Int32} {L : Nat → Nat → Int64} {v1 : Int32} {s0 : Int32}
    (h : ((¬ s0 = (0 : Int32) → xi_V (xG L0 xs) 59 0 [some (Value.ref 1), some (Value.int v1)] [] (xSH, xRF, I, L) 0 0 (fun r σ' => xi_V (xG L0 xs) 74 18 [some (Value.ref 0), some (Value.int v1), none] (r.toList ++ []) σ' 0 0 Q)) ∧ (s0 = (0 : Int32) → Q (some (Value.int (-2 : Int32))) (xSH, xRF, I, L)))) :
    xi_V (xG L0 xs) 74 4 [some (Value.ref 0), some (Value.int v1), none] [Value.int s0] (xSH, xRF, I, L) 0 0 Q := xi_go 74 [(18, [])] 400 (h)
theorem b_D_crowd_18 {L0 : Nat} {xs : Nat → Int32} {Q : xiQ} {I : Nat → Nat → Int32} {L : Nat → Nat → Int64} {v1 : Int32} {s0 : Int32}
    (h : ((¬ s0 = (0 : Int32) → xi_V (xG L0 xs) 65 0 [some (Value.ref 1), some (Value.int v1), none, none, none, none, none] [] (xSH, xRF, I, L) 0 0 (fun r σ' => xi_V (xG L0 xs) 74 32 [some (Value.ref 0), some (Value.int v1), none] (r.toList ++ []) σ' 0 0 Q)) ∧ (s0 = (0 : Int32) → Q (some (Value.int (-5 : Int32))) (xSH, xRF, I, L)))) :
    xi_V (xG L0 xs) 74 18 [some (Value.ref 0), some (Value.int v1), none] [Value.int s0] (xSH, xRF, I, L) 0 0 Q := xi_go 74 [(32, [])] 400 (h)
theorem b_D_crowd_32 {L0 : Nat} {xs : Nat → Int32} {Q : xiQ} {I : Nat → Nat → Int32} {L : Nat → Nat → Int64} {v1 : Int32} {s0 : Int32}
    (h : (((0 : Int32) ≤ s0 → xi_V (xG L0 xs) 17 0 [some (Value.ref 5), some (Value.ref 1), some (Value.int v1), none] [] (xSH, xRF, I, L) 0 0 (fun r σ' => xi_V (xG L0 xs) 74 51 [some (Value.ref 0), some (Value.int v1), some (Value.int s0)] (r.toList ++ []) σ' 0 0 Q)) ∧ (¬ (0 : Int32) ≤ s0 → Q (some (Value.int s0)) (xSH, xRF, I, L)))) :
    xi_V (xG L0 xs) 74 32 [some (Value.ref 0), some (Value.int v1), none] [Value.int s0] (xSH, xRF, I, L) 0 0 Q := xi_go 74 [(51, [])] 400 (h)
theorem b_D_crowd_51 {L0 : Nat} {xs : Nat → Int32} {Q : xiQ} {I : Nat → Nat → Int32} {L : Nat → Nat → Int64} {v1 : Int32} {v2 : Int32}
    (h : xi_V (xG L0 xs) 38 0 [some (Value.ref 10)] [] (xSH, xRF, I, L) 0 0 (fun r σ' => xi_V (xG L0 xs) 74 58 [some (Value.ref 0), some (Value.int v1), some (Value.int v2)] (r.toList ++ []) σ' 0 0 Q)) :
    xi_V (xG L0 xs) 74 51 [some (Value.ref 0), some (Value.int v1), some (Value.int v2)] [] (xSH, xRF, I, L) 0 0 Q := xi_go 74 [(58, [])] 400 (h)
theorem b_D_crowd_58 {L0 : Nat} {xs : Nat → Int32} {Q : xiQ} {I : Nat → Nat → Int32} {L : Nat → Nat → Int64} {v1 : Int32} {v2 : Int32}
    (h : Q (some (Value.int (I 5 0))) (xSH, xRF, I, L)) :
    xi_V (xG L0 xs) 74 58 [some (Value.ref 0), some (Value.int v1), some (Value.int v2)] [] (xSH, xRF, I, L) 0 0 Q := xi_go 74 [] 400 (h)
theorem b_D_drawn_0 {L0 : Nat} {xs : Nat → Int32} {Q : xiQ} {I : Nat → Nat → Int32} {L : Nat → Nat → Int64} {v1 : Int32} {v2 : Int32}
    (h : xi_V (xG L0 xs) 95 0 [some (Value.int v1)] [] (xSH, xRF, I, L) 0 0 (fun r σ' => xi_V (xG L0 xs) 75 4 [some (Value.ref 0), some (Value.int v1), some (Value.int v2)] (r.toList ++ []) σ' 0 0 Q)) :
    xi_V (xG L0 xs) 75 0 [some (Value.ref 0), some (Value.int v1), some (Value.int v2)] [] (xSH, xRF, I, L) 0 0 Q := xi_go 75 [(4, [])] 400 (h)
theorem b_D_drawn_4 {L0 : Nat} {xs : Nat → Int32} {Q : xiQ} {I : Nat → Nat → Int32} {L : Nat → Nat → Int64} {v1 : Int32} {v2 : Int32} {s0 : Int32}
    (h : ((¬ s0 = (0 : Int32) → ((v2 < (0 : Int32) → Q (some (Value.int (-4 : Int32))) (xSH, xRF, I, L)) ∧ (¬ v2 < (0 : Int32) → xi_V (xG L0 xs) 19 0 [some (Value.ref 5), some (Value.int v1)] [] (xSH, xRF, I, L) 0 0 (fun r σ' => xi_V (xG L0 xs) 75 23 [some (Value.ref 0), some (Value.int v1), some (Value.int v2)] (r.toList ++ [Value.int v2]) σ' 0 0 Q)))) ∧ (s0 = (0 : Int32) → Q (some (Value.int (-2 : Int32))) (xSH, xRF, I, L)))) :
    xi_V (xG L0 xs) 75 4 [some (Value.ref 0), some (Value.int v1), some (Value.int v2)] [Value.int s0] (xSH, xRF, I, L) 0 0 Q := xi_go 75 [(23, [])] 400 (h)
theorem b_D_drawn_23 {L0 : Nat} {xs : Nat → Int32} {Q : xiQ} {I : Nat → Nat → Int32} {L : Nat → Nat → Int64} {v1 : Int32} {v2 : Int32} {s0 : Int32} {s1 : Int32}
    (h : ((s0 ≤ s1 → vp_in v1 4 ∧ (((1 : Int32) = 0 ∨ (1 : Int32) = 1) ∧ (Q (some (Value.int (0 : Int32))) (xSH, xRF, xi_u (xi_u I 11 v1.toNatClampNeg v2) 10 3 (1 : Int32), L)))) ∧ (¬ s0 ≤ s1 → Q (some (Value.int (-4 : Int32))) (xSH, xRF, I, L)))) :
    xi_V (xG L0 xs) 75 23 [some (Value.ref 0), some (Value.int v1), some (Value.int v2)] [Value.int s1, Value.int s0] (xSH, xRF, I, L) 0 0 Q := xi_go 75 [] 400 (h)
theorem b_D_draw_0 {L0 : Nat} {xs : Nat → Int32} {Q : xiQ} {I : Nat → Nat → Int32} {L : Nat → Nat → Int64} {v1 : Int32} {v2 : Int32}
    (h : ((v1 < (0 : Int32) → Q (some (Value.int (-2 : Int32))) (xSH, xRF, I, L)) ∧ (¬ v1 < (0 : Int32) → ((v1 ≤ (4 : Int32) → ((v1 = (1 : Int32) → xi_V (xG L0 xs) 76 22 [some (Value.ref 0), some (Value.int v1), some (Value.int v2)] [] (xSH, xRF, I, L) 0 0 Q) ∧ (¬ v1 = (1 : Int32) → ((¬ v1 = (3 : Int32) → ((v2 < (0 : Int32) → Q (some (Value.int (-4 : Int32))) (xSH, xRF, I, L)) ∧ (¬ v2 < (0 : Int32) → (((I 5 0) < v2 → Q (some (Value.int (-4 : Int32))) (xSH, xRF, I, L)) ∧ (¬ (I 5 0) < v2 → ((¬ v1 = (2 : Int32) → xi_V (xG L0 xs) 76 64 [some (Value.ref 0), some (Value.int v1), some (Value.int v2)] [] (xSH, xRF, I, L) 0 0 Q) ∧ (v1 = (2 : Int32) → xi_V (xG L0 xs) 98 0 [some (Value.ref 0), some (Value.int v2), none, none] [] (xSH, xRF, I, L) 0 0 (fun r σ' => xi_V (xG L0 xs) 76 58 [some (Value.ref 0), some (Value.int v1), some (Value.int v2)] (r.toList ++ []) σ' 0 0 Q)))))))) ∧ (v1 = (3 : Int32) → xi_V (xG L0 xs) 76 22 [some (Value.ref 0), some (Value.int v1), some (Value.int v2)] [] (xSH, xRF, I, L) 0 0 Q))))) ∧ (¬ v1 ≤ (4 : Int32) → Q (some (Value.int (-2 : Int32))) (xSH, xRF, I, L)))))) :
    xi_V (xG L0 xs) 76 0 [some (Value.ref 0), some (Value.int v1), some (Value.int v2)] [] (xSH, xRF, I, L) 0 0 Q := xi_go 76 [(22, []), (58, []), (64, [])] 400 (h)
theorem b_D_draw_22 {L0 : Nat} {xs : Nat → Int32} {Q : xiQ} {I : Nat → Nat → Int32} {L : Nat → Nat → Int64} {v1 : Int32} {v2 : Int32}
    (h : xi_V (xG L0 xs) 39 0 [some (Value.ref 10), some (Value.int v1), some (Value.int (0 : Int32))] [] (xSH, xRF, I, L) 0 0 (fun r σ' => xi_V (xG L0 xs) 76 31 [some (Value.ref 0), some (Value.int v1), some (Value.int v2)] (r.toList ++ []) σ' 0 0 Q)) :
    xi_V (xG L0 xs) 76 22 [some (Value.ref 0), some (Value.int v1), some (Value.int v2)] [] (xSH, xRF, I, L) 0 0 Q := xi_go 76 [(31, [])] 400 (h)
theorem b_D_draw_31 {L0 : Nat} {xs : Nat → Int32} {Q : xiQ} {I : Nat → Nat → Int32} {L : Nat → Nat → Int64} {v1 : Int32} {v2 : Int32}
    (h : Q (some (Value.int (0 : Int32))) (xSH, xRF, I, L)) :
    xi_V (xG L0 xs) 76 31 [some (Value.ref 0), some (Value.int v1), some (Value.int v2)] [] (xSH, xRF, I, L) 0 0 Q := xi_go 76 [] 400 (h)
theorem b_D_draw_58 {L0 : Nat} {xs : Nat → Int32} {Q : xiQ} {I : Nat → Nat → Int32} {L : Nat → Nat → Int64} {v1 : Int32} {v2 : Int32} {s0 : Int32}
    (h : ((¬ s0 = (0 : Int32) → xi_V (xG L0 xs) 76 64 [some (Value.ref 0), some (Value.int v1), some (Value.int v2)] [] (xSH, xRF, I, L) 0 0 Q) ∧ (s0 = (0 : Int32) → Q (some (Value.int (-4 : Int32))) (xSH, xRF, I, L)))) :
    xi_V (xG L0 xs) 76 58 [some (Value.ref 0), some (Value.int v1), some (Value.int v2)] [Value.int s0] (xSH, xRF, I, L) 0 0 Q := xi_go 76 [(64, [])] 400 (h)
theorem b_D_draw_64 {L0 : Nat} {xs : Nat → Int32} {Q : xiQ} {I : Nat → Nat → Int32} {L : Nat → Nat → Int64} {v1 : Int32} {v2 : Int32}
    (h : xi_V (xG L0 xs) 39 0 [some (Value.ref 10), some (Value.int v1), some (Value.int v2)] [] (xSH, xRF, I, L) 0 0 (fun r σ' => xi_V (xG L0 xs) 76 73 [some (Value.ref 0), some (Value.int v1), some (Value.int v2)] (r.toList ++ []) σ' 0 0 Q)) :
    xi_V (xG L0 xs) 76 64 [some (Value.ref 0), some (Value.int v1), some (Value.int v2)] [] (xSH, xRF, I, L) 0 0 Q := xi_go 76 [(73, [])] 400 (h)
theorem b_D_draw_73 {L0 : Nat} {xs : Nat → Int32} {Q : xiQ} {I : Nat → Nat → Int32} {L : Nat → Nat → Int64} {v1 : Int32} {v2 : Int32}
    (h : Q (some (Value.int (0 : Int32))) (xSH, xRF, I, L)) :
    xi_V (xG L0 xs) 76 73 [some (Value.ref 0), some (Value.int v1), some (Value.int v2)] [] (xSH, xRF, I, L) 0 0 Q := xi_go 76 [] 400 (h)
theorem b_D_chance_0 {L0 : Nat} {xs : Nat → Int32} {Q : xiQ} {I : Nat → Nat → Int32} {L : Nat → Nat → Int64} {v1 : Int32}
    (h : xi_V (xG L0 xs) 78 0 [some (Value.ref 0), some (Value.int v1), some (Value.int v1)] [] (xSH, xRF, I, L) 0 0 (fun r σ' => xi_V (xG L0 xs) 77 6 [some (Value.ref 0), some (Value.int v1)] (r.toList ++ []) σ' 0 0 Q)) :
    xi_V (xG L0 xs) 77 0 [some (Value.ref 0), some (Value.int v1)] [] (xSH, xRF, I, L) 0 0 Q := xi_go 77 [(6, [])] 400 (h)
theorem b_D_chance_6 {L0 : Nat} {xs : Nat → Int32} {Q : xiQ} {I : Nat → Nat → Int32} {L : Nat → Nat → Int64} {v1 : Int32} {s0 : Int32}
    (h : ((s0 = 0 ∨ s0 = 1) ∧ Q (some (Value.int s0)) (xSH, xRF, I, L))) :
    xi_V (xG L0 xs) 77 6 [some (Value.ref 0), some (Value.int v1)] [Value.int s0] (xSH, xRF, I, L) 0 0 Q := xi_go 77 [] 400 (h)
theorem b_D_both_0 {L0 : Nat} {xs : Nat → Int32} {Q : xiQ} {I : Nat → Nat → Int32} {L : Nat → Nat → Int64} {v1 : Int32} {v2 : Int32}
    (h : xi_V (xG L0 xs) 96 0 [some (Value.ref 0), some (Value.int v1)] [] (xSH, xRF, I, L) 0 0 (fun r σ' => xi_V (xG L0 xs) 78 5 [some (Value.ref 0), some (Value.int v1), some (Value.int v2)] (r.toList ++ []) σ' 0 0 Q)) :
    xi_V (xG L0 xs) 78 0 [some (Value.ref 0), some (Value.int v1), some (Value.int v2)] [] (xSH, xRF, I, L) 0 0 Q := xi_go 78 [(5, [])] 400 (h)
theorem b_D_both_5 {L0 : Nat} {xs : Nat → Int32} {Q : xiQ} {I : Nat → Nat → Int32} {L : Nat → Nat → Int64} {v1 : Int32} {v2 : Int32} {s0 : Int32}
    (h : ((s0 = (0 : Int32) → (((0 : Int32) = 0 ∨ (0 : Int32) = 1) ∧ Q (some (Value.int (0 : Int32))) (xSH, xRF, I, L))) ∧ (¬ s0 = (0 : Int32) → xi_V (xG L0 xs) 96 0 [some (Value.ref 0), some (Value.int v2)] [] (xSH, xRF, I, L) 0 0 (fun r σ' => xi_V (xG L0 xs) 78 13 [some (Value.ref 0), some (Value.int v1), some (Value.int v2)] (r.toList ++ []) σ' 0 0 Q)))) :
    xi_V (xG L0 xs) 78 5 [some (Value.ref 0), some (Value.int v1), some (Value.int v2)] [Value.int s0] (xSH, xRF, I, L) 0 0 Q := xi_go 78 [(13, [])] 400 (h)
theorem b_D_both_13 {L0 : Nat} {xs : Nat → Int32} {Q : xiQ} {I : Nat → Nat → Int32} {L : Nat → Nat → Int64} {v1 : Int32} {v2 : Int32} {s0 : Int32}
    (h : ((¬ s0 = (0 : Int32) → xi_V (xG L0 xs) 43 0 [some (Value.ref 10), some (Value.ref 5), none] [] (xSH, xRF, I, L) 0 0 (fun r σ' => xi_V (xG L0 xs) 78 29 [some (Value.ref 0), some (Value.int v1), some (Value.int v2)] (r.toList ++ []) σ' 0 0 Q)) ∧ (s0 = (0 : Int32) → (((0 : Int32) = 0 ∨ (0 : Int32) = 1) ∧ Q (some (Value.int (0 : Int32))) (xSH, xRF, I, L))))) :
    xi_V (xG L0 xs) 78 13 [some (Value.ref 0), some (Value.int v1), some (Value.int v2)] [Value.int s0] (xSH, xRF, I, L) 0 0 Q := xi_go 78 [(29, [])] 400 (h)
theorem b_D_both_29 {L0 : Nat} {xs : Nat → Int32} {Q : xiQ} {I : Nat → Nat → Int32} {L : Nat → Nat → Int64} {v1 : Int32} {v2 : Int32}
    (h : xi_V (xG L0 xs) 42 0 [some (Value.ref 10), some (Value.int v1), some (Value.int v2)] [] (xSH, xRF, I, L) 0 0 (fun r σ' => xi_V (xG L0 xs) 78 42 [some (Value.ref 0), some (Value.int v1), some (Value.int v2)] (r.toList ++ [Value.ref 14]) σ' 0 0 Q)) :
    xi_V (xG L0 xs) 78 29 [some (Value.ref 0), some (Value.int v1), some (Value.int v2)] [] (xSH, xRF, I, L) 0 0 Q := xi_go 78 [(42, [])] 400 (h)
theorem b_D_both_42 {L0 : Nat} {xs : Nat → Int32} {Q : xiQ} {I : Nat → Nat → Int32} {L : Nat → Nat → Int64} {v1 : Int32} {v2 : Int32} {t1 : Int64}
    (h : xi_V (xG L0 xs) 33 0 [some (Value.ref 14), some (Value.long t1), none, some (Value.long (L 10 6)), none] [] (xSH, xRF, I, L) 0 0 (fun r σ' => xi_V (xG L0 xs) 78 52 [some (Value.ref 0), some (Value.int v1), some (Value.int v2)] (r.toList ++ []) σ' 0 0 Q)) :
    xi_V (xG L0 xs) 78 42 [some (Value.ref 0), some (Value.int v1), some (Value.int v2)] [Value.long t1, Value.ref 14] (xSH, xRF, I, L) 0 0 Q := xi_go 78 [(52, [])] 400 (h)
theorem b_D_both_52 {L0 : Nat} {xs : Nat → Int32} {Q : xiQ} {I : Nat → Nat → Int32} {L : Nat → Nat → Int64} {v1 : Int32} {v2 : Int32}
    (h : (((1 : Int32) = 0 ∨ (1 : Int32) = 1) ∧ Q (some (Value.int (1 : Int32))) (xSH, xRF, I, L))) :
    xi_V (xG L0 xs) 78 52 [some (Value.ref 0), some (Value.int v1), some (Value.int v2)] [] (xSH, xRF, I, L) 0 0 Q := xi_go 78 [] 400 (h)
theorem b_D_set_0 {L0 : Nat} {xs : Nat → Int32} {Q : xiQ} {I : Nat → Nat → Int32} {L : Nat → Nat → Int64} {v1 : Int32}
    (h : xi_V (xG L0 xs) 97 0 [some (Value.ref 0), some (Value.int v1)] [] (xSH, xRF, I, L) 0 0 (fun r σ' => xi_V (xG L0 xs) 79 5 [some (Value.ref 0), some (Value.int v1)] (r.toList ++ []) σ' 0 0 Q)) :
    xi_V (xG L0 xs) 79 0 [some (Value.ref 0), some (Value.int v1)] [] (xSH, xRF, I, L) 0 0 Q := xi_go 79 [(5, [])] 400 (h)
theorem b_D_set_5 {L0 : Nat} {xs : Nat → Int32} {Q : xiQ} {I : Nat → Nat → Int32} {L : Nat → Nat → Int64} {v1 : Int32} {s0 : Int32}
    (h : ((¬ s0 = (0 : Int32) → xi_V (xG L0 xs) 43 0 [some (Value.ref 10), some (Value.ref 5), none] [] (xSH, xRF, I, L) 0 0 (fun r σ' => xi_V (xG L0 xs) 79 21 [some (Value.ref 0), some (Value.int v1)] (r.toList ++ []) σ' 0 0 Q)) ∧ (s0 = (0 : Int32) → (((0 : Int32) = 0 ∨ (0 : Int32) = 1) ∧ Q (some (Value.int (0 : Int32))) (xSH, xRF, I, L))))) :
    xi_V (xG L0 xs) 79 5 [some (Value.ref 0), some (Value.int v1)] [Value.int s0] (xSH, xRF, I, L) 0 0 Q := xi_go 79 [(21, [])] 400 (h)
theorem b_D_set_21 {L0 : Nat} {xs : Nat → Int32} {Q : xiQ} {I : Nat → Nat → Int32} {L : Nat → Nat → Int64} {v1 : Int32}
    (h : ((¬ (I 10 0) = (3 : Int32) → vp_in v1 1024 ∧ (xi_V (xG L0 xs) 33 0 [some (Value.ref 14), some (Value.long (L 12 v1.toNatClampNeg)), none, some (Value.long (L 10 6)), none] [] (xSH, xRF, I, L) 0 0 (fun r σ' => xi_V (xG L0 xs) 79 63 [some (Value.ref 0), some (Value.int v1)] (r.toList ++ []) σ' 0 0 Q))) ∧ ((I 10 0) = (3 : Int32) → xi_V (xG L0 xs) 100 0 [some (Value.ref 0), some (Value.int v1), none, none] [] (xSH, xRF, I, L) 0 0 (fun r σ' => xi_V (xG L0 xs) 79 37 [some (Value.ref 0), some (Value.int v1)] (r.toList ++ []) σ' 0 0 Q)))) :
    xi_V (xG L0 xs) 79 21 [some (Value.ref 0), some (Value.int v1)] [] (xSH, xRF, I, L) 0 0 Q := xi_go 79 [(37, []), (63, [])] 400 (h)
theorem b_D_set_37 {L0 : Nat} {xs : Nat → Int32} {Q : xiQ} {I : Nat → Nat → Int32} {L : Nat → Nat → Int64} {v1 : Int32}
    (h : xi_V (xG L0 xs) 79 63 [some (Value.ref 0), some (Value.int v1)] [] (xSH, xRF, I, L) 0 0 Q) :
    xi_V (xG L0 xs) 79 37 [some (Value.ref 0), some (Value.int v1)] [] (xSH, xRF, I, L) 0 0 Q := xi_go 79 [(63, [])] 400 (h)
theorem b_D_set_63 {L0 : Nat} {xs : Nat → Int32} {Q : xiQ} {I : Nat → Nat → Int32} {L : Nat → Nat → Int64} {v1 : Int32}
    (h : (((1 : Int32) = 0 ∨ (1 : Int32) = 1) ∧ Q (some (Value.int (1 : Int32))) (xSH, xRF, I, L))) :
    xi_V (xG L0 xs) 79 63 [some (Value.ref 0), some (Value.int v1)] [] (xSH, xRF, I, L) 0 0 Q := xi_go 79 [] 400 (h)
theorem b_D_sets_0 {L0 : Nat} {xs : Nat → Int32} {Q : xiQ} {I : Nat → Nat → Int32} {L : Nat → Nat → Int64}
    (h : xi_V (xG L0 xs) 43 0 [some (Value.ref 10), some (Value.ref 5), none] [] (xSH, xRF, I, L) 0 0 (fun r σ' => xi_V (xG L0 xs) 80 11 [some (Value.ref 0), none, none] (r.toList ++ []) σ' 0 0 Q)) :
    xi_V (xG L0 xs) 80 0 [some (Value.ref 0), none, none] [] (xSH, xRF, I, L) 0 0 Q := xi_go 80 [(11, [])] 400 (h)
theorem b_D_sets_11 {L0 : Nat} {xs : Nat → Int32} {Q : xiQ} {I : Nat → Nat → Int32} {L : Nat → Nat → Int64}
    (h : xi_V (xG L0 xs) 80 15 [some (Value.ref 0), some (Value.int (0 : Int32)), some (Value.int (0 : Int32))] [] (xSH, xRF, I, L) 0 0 Q) :
    xi_V (xG L0 xs) 80 11 [some (Value.ref 0), none, none] [] (xSH, xRF, I, L) 0 0 Q := xi_go 80 [(15, [])] 400 (h)
theorem b_D_sets_15 {L0 : Nat} {xs : Nat → Int32} {Q : xiQ} {I : Nat → Nat → Int32} {L : Nat → Nat → Int64} {v1 : Int32} {v2 : Int32}
    (h : xi_V (xG L0 xs) 18 0 [some (Value.ref 5)] [] (xSH, xRF, I, L) 0 0 (fun r σ' => xi_V (xG L0 xs) 80 23 [some (Value.ref 0), some (Value.int v1), some (Value.int v2)] (r.toList ++ [Value.int v2]) σ' 0 0 Q)) :
    xi_V (xG L0 xs) 80 15 [some (Value.ref 0), some (Value.int v1), some (Value.int v2)] [] (xSH, xRF, I, L) 0 0 Q := xi_go 80 [(23, [])] 400 (h)
theorem b_D_sets_23 {L0 : Nat} {xs : Nat → Int32} {Q : xiQ} {I : Nat → Nat → Int32} {L : Nat → Nat → Int64} {v1 : Int32} {v2 : Int32} {s0 : Int32} {s1 : Int32}
    (h : ((s1 ≤ s0 → Q (some (Value.int v1)) (xSH, xRF, I, L)) ∧ (¬ s1 ≤ s0 → vp_in v2 1024 ∧ ((((lg_cmp (L 12 v2.toNatClampNeg) (0 : Int64)) ≤ (0 : Int32) → xi_V (xG L0 xs) 80 15 [some (Value.ref 0), some (Value.int v1), some (Value.int (v2 + (1 : Int32)))] [] (xSH, xRF, I, L) 0 0 Q) ∧ (¬ (lg_cmp (L 12 v2.toNatClampNeg) (0 : Int64)) ≤ (0 : Int32) → xi_V (xG L0 xs) 80 15 [some (Value.ref 0), some (Value.int (v1 + (1 : Int32))), some (Value.int (v2 + (1 : Int32)))] [] (xSH, xRF, I, L) 0 0 Q)))))) :
    xi_V (xG L0 xs) 80 23 [some (Value.ref 0), some (Value.int v1), some (Value.int v2)] [Value.int s1, Value.int s0] (xSH, xRF, I, L) 0 0 Q := xi_go 80 [(46, [])] 400 (⟨(h).1, fun c23 => ⟨((h).2 c23).1, ⟨fun c37 => (show xi_V (xG L0 xs) 80 46 [some (Value.ref 0), some (Value.int v1), some (Value.int (v2 + (1 : Int32)))] [] (xSH, xRF, I, L) 0 0 Q from xi_go 80 [(15, [])] 400 ((((h).2 c23).2).1 c37)), fun c37 => (show xi_V (xG L0 xs) 80 46 [some (Value.ref 0), some (Value.int (v1 + (1 : Int32))), some (Value.int (v2 + (1 : Int32)))] [] (xSH, xRF, I, L) 0 0 Q from xi_go 80 [(15, [])] 400 ((((h).2 c23).2).2 c37))⟩⟩⟩)
theorem b_D_many_0 {L0 : Nat} {xs : Nat → Int32} {Q : xiQ} {I : Nat → Nat → Int32} {L : Nat → Nat → Int64}
    (h : xi_V (xG L0 xs) 43 0 [some (Value.ref 10), some (Value.ref 5), none] [] (xSH, xRF, I, L) 0 0 (fun r σ' => xi_V (xG L0 xs) 81 11 [some (Value.ref 0), none, none, none] (r.toList ++ []) σ' 0 0 Q)) :
    xi_V (xG L0 xs) 81 0 [some (Value.ref 0), none, none, none] [] (xSH, xRF, I, L) 0 0 Q := xi_go 81 [(11, [])] 400 (h)
theorem b_D_many_11 {L0 : Nat} {xs : Nat → Int32} {Q : xiQ} {I : Nat → Nat → Int32} {L : Nat → Nat → Int64}
    (h : xi_V (xG L0 xs) 81 15 [some (Value.ref 0), some (Value.long (0 : Int64)), none, some (Value.int (0 : Int32))] [] (xSH, xRF, I, L) 0 0 Q) :
    xi_V (xG L0 xs) 81 11 [some (Value.ref 0), none, none, none] [] (xSH, xRF, I, L) 0 0 Q := xi_go 81 [(15, [])] 400 (h)
theorem b_D_many_15 {L0 : Nat} {xs : Nat → Int32} {Q : xiQ} {I : Nat → Nat → Int32} {L : Nat → Nat → Int64} {w1 : Int64} {v3 : Int32}
    (h : (((I 5 0) ≤ v3 → xi_V (xG L0 xs) 33 0 [some (Value.ref 14), some (Value.long w1), none, some (Value.long (L 10 6)), none] [] (xSH, xRF, I, L) 0 0 (fun r σ' => xi_V (xG L0 xs) 81 58 [some (Value.ref 0), some (Value.long w1), none, some (Value.int v3)] (r.toList ++ []) σ' 0 0 Q)) ∧ (¬ (I 5 0) ≤ v3 → xi_V (xG L0 xs) 41 0 [some (Value.ref 10), some (Value.int v3)] [] (xSH, xRF, I, L) 0 0 (fun r σ' => xi_V (xG L0 xs) 81 35 [some (Value.ref 0), some (Value.long w1), none, some (Value.int v3)] (r.toList ++ [Value.long w1]) σ' 0 0 Q)))) :
    xi_V (xG L0 xs) 81 15 [some (Value.ref 0), some (Value.long w1), none, some (Value.int v3)] [] (xSH, xRF, I, L) 0 0 Q := xi_go 81 [(35, []), (58, [])] 400 (h)
theorem b_D_many_35 {L0 : Nat} {xs : Nat → Int32} {Q : xiQ} {I : Nat → Nat → Int32} {L : Nat → Nat → Int64} {w1 : Int64} {v3 : Int32} {t0 : Int64} {t1 : Int64}
    (h : xi_V (xG L0 xs) 81 15 [some (Value.ref 0), some (Value.long (t0 + t1)), none, some (Value.int (v3 + (1 : Int32)))] [] (xSH, xRF, I, L) 0 0 Q) :
    xi_V (xG L0 xs) 81 35 [some (Value.ref 0), some (Value.long w1), none, some (Value.int v3)] [Value.long t1, Value.long t0] (xSH, xRF, I, L) 0 0 Q := xi_go 81 [(40, [])] 400 ((show xi_V (xG L0 xs) 81 40 [some (Value.ref 0), some (Value.long (t0 + t1)), none, some (Value.int (v3 + (1 : Int32)))] [] (xSH, xRF, I, L) 0 0 Q from xi_go 81 [(15, [])] 400 (h)))
theorem b_D_many_58 {L0 : Nat} {xs : Nat → Int32} {Q : xiQ} {I : Nat → Nat → Int32} {L : Nat → Nat → Int64} {w1 : Int64} {v3 : Int32}
    (h : Q none (xSH, xRF, I, L)) :
    xi_V (xG L0 xs) 81 58 [some (Value.ref 0), some (Value.long w1), none, some (Value.int v3)] [] (xSH, xRF, I, L) 0 0 Q := xi_go 81 [] 400 (h)
theorem b_D_sum_0 {L0 : Nat} {xs : Nat → Int32} {Q : xiQ} {I : Nat → Nat → Int32} {L : Nat → Nat → Int64} {v1 : Int32}
    (h : xi_V (xG L0 xs) 97 0 [some (Value.ref 0), some (Value.int v1)] [] (xSH, xRF, I, L) 0 0 (fun r σ' => xi_V (xG L0 xs) 82 5 [some (Value.ref 0), some (Value.int v1)] (r.toList ++ []) σ' 0 0 Q)) :
    xi_V (xG L0 xs) 82 0 [some (Value.ref 0), some (Value.int v1)] [] (xSH, xRF, I, L) 0 0 Q := xi_go 82 [(5, [])] 400 (h)
theorem b_D_sum_5 {L0 : Nat} {xs : Nat → Int32} {Q : xiQ} {I : Nat → Nat → Int32} {L : Nat → Nat → Int64} {v1 : Int32} {s0 : Int32}
    (h : ((¬ s0 = (0 : Int32) → xi_V (xG L0 xs) 43 0 [some (Value.ref 10), some (Value.ref 5), none] [] (xSH, xRF, I, L) 0 0 (fun r σ' => xi_V (xG L0 xs) 82 21 [some (Value.ref 0), some (Value.int v1)] (r.toList ++ []) σ' 0 0 Q)) ∧ (s0 = (0 : Int32) → (((0 : Int32) = 0 ∨ (0 : Int32) = 1) ∧ Q (some (Value.int (0 : Int32))) (xSH, xRF, I, L))))) :
    xi_V (xG L0 xs) 82 5 [some (Value.ref 0), some (Value.int v1)] [Value.int s0] (xSH, xRF, I, L) 0 0 Q := xi_go 82 [(21, [])] 400 (h)
theorem b_D_sum_21 {L0 : Nat} {xs : Nat → Int32} {Q : xiQ} {I : Nat → Nat → Int32} {L : Nat → Nat → Int64} {v1 : Int32}
    (h : xi_V (xG L0 xs) 101 0 [some (Value.ref 0), some (Value.int v1), none] [] (xSH, xRF, I, L) 0 0 (fun r σ' => xi_V (xG L0 xs) 82 26 [some (Value.ref 0), some (Value.int v1)] (r.toList ++ []) σ' 0 0 Q)) :
    xi_V (xG L0 xs) 82 21 [some (Value.ref 0), some (Value.int v1)] [] (xSH, xRF, I, L) 0 0 Q := xi_go 82 [(26, [])] 400 (h)
theorem b_D_sum_26 {L0 : Nat} {xs : Nat → Int32} {Q : xiQ} {I : Nat → Nat → Int32} {L : Nat → Nat → Int64} {v1 : Int32}
    (h : (((1 : Int32) = 0 ∨ (1 : Int32) = 1) ∧ Q (some (Value.int (1 : Int32))) (xSH, xRF, I, L))) :
    xi_V (xG L0 xs) 82 26 [some (Value.ref 0), some (Value.int v1)] [] (xSH, xRF, I, L) 0 0 Q := xi_go 82 [] 400 (h)
theorem b_D_mean_0 {L0 : Nat} {xs : Nat → Int32} {Q : xiQ} {I : Nat → Nat → Int32} {L : Nat → Nat → Int64}
    (h : xi_V (xG L0 xs) 43 0 [some (Value.ref 10), some (Value.ref 5), none] [] (xSH, xRF, I, L) 0 0 (fun r σ' => xi_V (xG L0 xs) 83 11 [some (Value.ref 0)] (r.toList ++ []) σ' 0 0 Q)) :
    xi_V (xG L0 xs) 83 0 [some (Value.ref 0)] [] (xSH, xRF, I, L) 0 0 Q := xi_go 83 [(11, [])] 400 (h)
theorem b_D_mean_11 {L0 : Nat} {xs : Nat → Int32} {Q : xiQ} {I : Nat → Nat → Int32} {L : Nat → Nat → Int64}
    (h : xi_V (xG L0 xs) 103 0 [some (Value.ref 0), none, none] [] (xSH, xRF, I, L) 0 0 (fun r σ' => xi_V (xG L0 xs) 83 19 [some (Value.ref 0)] (r.toList ++ [Value.ref 14]) σ' 0 0 Q)) :
    xi_V (xG L0 xs) 83 11 [some (Value.ref 0)] [] (xSH, xRF, I, L) 0 0 Q := xi_go 83 [(19, [])] 400 (h)
theorem b_D_mean_19 {L0 : Nat} {xs : Nat → Int32} {Q : xiQ} {I : Nat → Nat → Int32} {L : Nat → Nat → Int64} {s1 : Int32}
    (h : xi_V (xG L0 xs) 33 0 [some (Value.ref 14), some (Value.long (Int32.toInt64 s1)), none, some (Value.long (1 : Int64)), none] [] (xSH, xRF, I, L) 0 0 (fun r σ' => xi_V (xG L0 xs) 83 24 [some (Value.ref 0)] (r.toList ++ []) σ' 0 0 Q)) :
    xi_V (xG L0 xs) 83 19 [some (Value.ref 0)] [Value.int s1, Value.ref 14] (xSH, xRF, I, L) 0 0 Q := xi_go 83 [(24, [])] 400 (h)
theorem b_D_mean_24 {L0 : Nat} {xs : Nat → Int32} {Q : xiQ} {I : Nat → Nat → Int32} {L : Nat → Nat → Int64}
    (h : Q none (xSH, xRF, I, L)) :
    xi_V (xG L0 xs) 83 24 [some (Value.ref 0)] [] (xSH, xRF, I, L) 0 0 Q := xi_go 83 [] 400 (h)
theorem b_D_spread_0 {L0 : Nat} {xs : Nat → Int32} {Q : xiQ} {I : Nat → Nat → Int32} {L : Nat → Nat → Int64}
    (h : xi_V (xG L0 xs) 43 0 [some (Value.ref 10), some (Value.ref 5), none] [] (xSH, xRF, I, L) 0 0 (fun r σ' => xi_V (xG L0 xs) 84 11 [some (Value.ref 0)] (r.toList ++ []) σ' 0 0 Q)) :
    xi_V (xG L0 xs) 84 0 [some (Value.ref 0)] [] (xSH, xRF, I, L) 0 0 Q := xi_go 84 [(11, [])] 400 (h)
theorem b_D_spread_11 {L0 : Nat} {xs : Nat → Int32} {Q : xiQ} {I : Nat → Nat → Int32} {L : Nat → Nat → Int64}
    (h : xi_V (xG L0 xs) 104 0 [some (Value.ref 0), none, none, none, none] [] (xSH, xRF, I, L) 0 0 (fun r σ' => xi_V (xG L0 xs) 84 15 [some (Value.ref 0)] (r.toList ++ []) σ' 0 0 Q)) :
    xi_V (xG L0 xs) 84 11 [some (Value.ref 0)] [] (xSH, xRF, I, L) 0 0 Q := xi_go 84 [(15, [])] 400 (h)
theorem b_D_spread_15 {L0 : Nat} {xs : Nat → Int32} {Q : xiQ} {I : Nat → Nat → Int32} {L : Nat → Nat → Int64}
    (h : Q none (xSH, xRF, I, L)) :
    xi_V (xG L0 xs) 84 15 [some (Value.ref 0)] [] (xSH, xRF, I, L) 0 0 Q := xi_go 84 [] 400 (h)
theorem b_D_heap_0 {L0 : Nat} {xs : Nat → Int32} {Q : xiQ} {I : Nat → Nat → Int32} {L : Nat → Nat → Int64} {v1 : Int32}
    (h : xi_V (xG L0 xs) 95 0 [some (Value.int v1)] [] (xSH, xRF, I, L) 0 0 (fun r σ' => xi_V (xG L0 xs) 85 4 [some (Value.ref 0), some (Value.int v1)] (r.toList ++ []) σ' 0 0 Q)) :
    xi_V (xG L0 xs) 85 0 [some (Value.ref 0), some (Value.int v1)] [] (xSH, xRF, I, L) 0 0 Q := xi_go 85 [(4, [])] 400 (h)
theorem b_D_heap_4 {L0 : Nat} {xs : Nat → Int32} {Q : xiQ} {I : Nat → Nat → Int32} {L : Nat → Nat → Int64} {v1 : Int32} {s0 : Int32}
    (h : ((¬ s0 = (0 : Int32) → xi_V (xG L0 xs) 22 0 [some (Value.ref 5), some (Value.int v1), none, none, none, none, none, none] [] (xSH, xRF, I, L) 0 0 (fun r σ' => xi_V (xG L0 xs) 85 21 [some (Value.ref 0), some (Value.int v1)] (r.toList ++ [Value.ref 14]) σ' 0 0 Q)) ∧ (s0 = (0 : Int32) → (((0 : Int32) = 0 ∨ (0 : Int32) = 1) ∧ Q (some (Value.int (0 : Int32))) (xSH, xRF, I, L))))) :
    xi_V (xG L0 xs) 85 4 [some (Value.ref 0), some (Value.int v1)] [Value.int s0] (xSH, xRF, I, L) 0 0 Q := xi_go 85 [(21, [])] 400 (h)
theorem b_D_heap_21 {L0 : Nat} {xs : Nat → Int32} {Q : xiQ} {I : Nat → Nat → Int32} {L : Nat → Nat → Int64} {v1 : Int32} {t1 : Int64}
    (h : xi_V (xG L0 xs) 23 0 [some (Value.ref 5), some (Value.int v1)] [] (xSH, xRF, I, L) 0 0 (fun r σ' => xi_V (xG L0 xs) 85 29 [some (Value.ref 0), some (Value.int v1)] (r.toList ++ [Value.long t1, Value.ref 14]) σ' 0 0 Q)) :
    xi_V (xG L0 xs) 85 21 [some (Value.ref 0), some (Value.int v1)] [Value.long t1, Value.ref 14] (xSH, xRF, I, L) 0 0 Q := xi_go 85 [(29, [])] 400 (h)
theorem b_D_heap_29 {L0 : Nat} {xs : Nat → Int32} {Q : xiQ} {I : Nat → Nat → Int32} {L : Nat → Nat → Int64} {v1 : Int32} {t1 : Int64} {t2 : Int64}
    (h : xi_V (xG L0 xs) 33 0 [some (Value.ref 14), some (Value.long t1), none, some (Value.long t2), none] [] (xSH, xRF, I, L) 0 0 (fun r σ' => xi_V (xG L0 xs) 85 32 [some (Value.ref 0), some (Value.int v1)] (r.toList ++ []) σ' 0 0 Q)) :
    xi_V (xG L0 xs) 85 29 [some (Value.ref 0), some (Value.int v1)] [Value.long t2, Value.long t1, Value.ref 14] (xSH, xRF, I, L) 0 0 Q := xi_go 85 [(32, [])] 400 (h)
theorem b_D_heap_32 {L0 : Nat} {xs : Nat → Int32} {Q : xiQ} {I : Nat → Nat → Int32} {L : Nat → Nat → Int64} {v1 : Int32}
    (h : (((1 : Int32) = 0 ∨ (1 : Int32) = 1) ∧ Q (some (Value.int (1 : Int32))) (xSH, xRF, I, L))) :
    xi_V (xG L0 xs) 85 32 [some (Value.ref 0), some (Value.int v1)] [] (xSH, xRF, I, L) 0 0 Q := xi_go 85 [] 400 (h)
theorem b_D_share_0 {L0 : Nat} {xs : Nat → Int32} {Q : xiQ} {I : Nat → Nat → Int32} {L : Nat → Nat → Int64} {v1 : Int32} {v2 : Int32}
    (h : xi_V (xG L0 xs) 95 0 [some (Value.int v2)] [] (xSH, xRF, I, L) 0 0 (fun r σ' => xi_V (xG L0 xs) 86 4 [some (Value.ref 0), some (Value.int v1), some (Value.int v2)] (r.toList ++ []) σ' 0 0 Q)) :
    xi_V (xG L0 xs) 86 0 [some (Value.ref 0), some (Value.int v1), some (Value.int v2)] [] (xSH, xRF, I, L) 0 0 Q := xi_go 86 [(4, [])] 400 (h)
theorem b_D_share_4 {L0 : Nat} {xs : Nat → Int32} {Q : xiQ} {I : Nat → Nat → Int32} {L : Nat → Nat → Int64} {v1 : Int32} {v2 : Int32} {s0 : Int32}
    (h : ((¬ s0 = (0 : Int32) → xi_V (xG L0 xs) 99 0 [some (Value.ref 0), some (Value.int v1)] [] (xSH, xRF, I, L) 0 0 (fun r σ' => xi_V (xG L0 xs) 86 15 [some (Value.ref 0), some (Value.int v1), some (Value.int v2)] (r.toList ++ []) σ' 0 0 Q)) ∧ (s0 = (0 : Int32) → Q (some (Value.int (-2 : Int32))) (xSH, xRF, I, L)))) :
    xi_V (xG L0 xs) 86 4 [some (Value.ref 0), some (Value.int v1), some (Value.int v2)] [Value.int s0] (xSH, xRF, I, L) 0 0 Q := xi_go 86 [(15, [])] 400 (h)
theorem b_D_share_15 {L0 : Nat} {xs : Nat → Int32} {Q : xiQ} {I : Nat → Nat → Int32} {L : Nat → Nat → Int64} {v1 : Int32} {v2 : Int32} {s0 : Int32}
    (h : ((¬ s0 = (0 : Int32) → xi_V (xG L0 xs) 54 0 [some (Value.ref 26), some (Value.ref 5), some (Value.int v1), none, none, none, none] [] (xSH, xRF, I, L) 0 0 (fun r σ' => xi_V (xG L0 xs) 86 33 [some (Value.ref 0), some (Value.int v1), some (Value.int v2)] (r.toList ++ []) σ' 0 0 Q)) ∧ (s0 = (0 : Int32) → Q (some (Value.int (-4 : Int32))) (xSH, xRF, I, L)))) :
    xi_V (xG L0 xs) 86 15 [some (Value.ref 0), some (Value.int v1), some (Value.int v2)] [Value.int s0] (xSH, xRF, I, L) 0 0 Q := xi_go 86 [(33, [])] 400 (h)
theorem b_D_share_33 {L0 : Nat} {xs : Nat → Int32} {Q : xiQ} {I : Nat → Nat → Int32} {L : Nat → Nat → Int64} {v1 : Int32} {v2 : Int32}
    (h : vp_in v2 4 ∧ (Q (some (Value.int (I 27 v2.toNatClampNeg))) (xSH, xRF, I, L))) :
    xi_V (xG L0 xs) 86 33 [some (Value.ref 0), some (Value.int v1), some (Value.int v2)] [] (xSH, xRF, I, L) 0 0 Q := xi_go 86 [] 400 (h)
theorem b_D_least_0 {L0 : Nat} {xs : Nat → Int32} {Q : xiQ} {I : Nat → Nat → Int32} {L : Nat → Nat → Int64} {v1 : Int32}
    (h : xi_V (xG L0 xs) 99 0 [some (Value.ref 0), some (Value.int v1)] [] (xSH, xRF, I, L) 0 0 (fun r σ' => xi_V (xG L0 xs) 87 5 [some (Value.ref 0), some (Value.int v1)] (r.toList ++ []) σ' 0 0 Q)) :
    xi_V (xG L0 xs) 87 0 [some (Value.ref 0), some (Value.int v1)] [] (xSH, xRF, I, L) 0 0 Q := xi_go 87 [(5, [])] 400 (h)
theorem b_D_least_5 {L0 : Nat} {xs : Nat → Int32} {Q : xiQ} {I : Nat → Nat → Int32} {L : Nat → Nat → Int64} {v1 : Int32} {s0 : Int32}
    (h : ((¬ s0 = (0 : Int32) → xi_V (xG L0 xs) 54 0 [some (Value.ref 26), some (Value.ref 5), some (Value.int v1), none, none, none, none] [] (xSH, xRF, I, L) 0 0 (fun r σ' => xi_V (xG L0 xs) 87 22 [some (Value.ref 0), some (Value.int v1)] (r.toList ++ []) σ' 0 0 Q)) ∧ (s0 = (0 : Int32) → (((0 : Int32) = 0 ∨ (0 : Int32) = 1) ∧ Q (some (Value.int (0 : Int32))) (xSH, xRF, I, L))))) :
    xi_V (xG L0 xs) 87 5 [some (Value.ref 0), some (Value.int v1)] [Value.int s0] (xSH, xRF, I, L) 0 0 Q := xi_go 87 [(22, [])] 400 (h)
theorem b_D_least_22 {L0 : Nat} {xs : Nat → Int32} {Q : xiQ} {I : Nat → Nat → Int32} {L : Nat → Nat → Int64} {v1 : Int32}
    (h : xi_V (xG L0 xs) 33 0 [some (Value.ref 14), some (Value.long (L 26 1)), none, some (Value.long (6350400 : Int64)), none] [] (xSH, xRF, I, L) 0 0 (fun r σ' => xi_V (xG L0 xs) 87 39 [some (Value.ref 0), some (Value.int v1)] (r.toList ++ []) σ' 0 0 Q)) :
    xi_V (xG L0 xs) 87 22 [some (Value.ref 0), some (Value.int v1)] [] (xSH, xRF, I, L) 0 0 Q := xi_go 87 [(39, [])] 400 (h)
theorem b_D_least_39 {L0 : Nat} {xs : Nat → Int32} {Q : xiQ} {I : Nat → Nat → Int32} {L : Nat → Nat → Int64} {v1 : Int32}
    (h : (((1 : Int32) = 0 ∨ (1 : Int32) = 1) ∧ Q (some (Value.int (1 : Int32))) (xSH, xRF, I, L))) :
    xi_V (xG L0 xs) 87 39 [some (Value.ref 0), some (Value.int v1)] [] (xSH, xRF, I, L) 0 0 Q := xi_go 87 [] 400 (h)
theorem b_D_bands_0 {L0 : Nat} {xs : Nat → Int32} {Q : xiQ} {I : Nat → Nat → Int32} {L : Nat → Nat → Int64} {v1 : Int32}
    (h : ((v1 < (1 : Int32) → Q (some (Value.int (-1 : Int32))) (xSH, xRF, I, L)) ∧ (¬ v1 < (1 : Int32) → ((v1 ≤ (I 5 0) → xi_V (xG L0 xs) 26 0 [some (Value.ref 31), some (Value.ref 5), some (Value.int v1), none, none] [] (xSH, xRF, I, L) 0 0 (fun r σ' => xi_V (xG L0 xs) 88 30 [some (Value.ref 0), some (Value.int v1)] (r.toList ++ []) σ' 0 0 Q)) ∧ (¬ v1 ≤ (I 5 0) → Q (some (Value.int (-1 : Int32))) (xSH, xRF, I, L)))))) :
    xi_V (xG L0 xs) 88 0 [some (Value.ref 0), some (Value.int v1)] [] (xSH, xRF, I, L) 0 0 Q := xi_go 88 [(30, [])] 400 (h)
theorem b_D_bands_30 {L0 : Nat} {xs : Nat → Int32} {Q : xiQ} {I : Nat → Nat → Int32} {L : Nat → Nat → Int64} {v1 : Int32}
    (h : xi_V (xG L0 xs) 25 0 [some (Value.ref 31), some (Value.int v1), some (Value.int (0 : Int32))] [] (xSH, xRF, I, L) 0 0 (fun r σ' => xi_V (xG L0 xs) 88 39 [some (Value.ref 0), some (Value.int v1)] (r.toList ++ []) σ' 0 0 Q)) :
    xi_V (xG L0 xs) 88 30 [some (Value.ref 0), some (Value.int v1)] [] (xSH, xRF, I, L) 0 0 Q := xi_go 88 [(39, [])] 400 (h)
theorem b_D_bands_39 {L0 : Nat} {xs : Nat → Int32} {Q : xiQ} {I : Nat → Nat → Int32} {L : Nat → Nat → Int64} {v1 : Int32} {s0 : Int32}
    (h : Q (some (Value.int s0)) (xSH, xRF, I, L)) :
    xi_V (xG L0 xs) 88 39 [some (Value.ref 0), some (Value.int v1)] [Value.int s0] (xSH, xRF, I, L) 0 0 Q := xi_go 88 [] 400 (h)
theorem b_D_band_0 {L0 : Nat} {xs : Nat → Int32} {Q : xiQ} {I : Nat → Nat → Int32} {L : Nat → Nat → Int64} {v1 : Int32} {v2 : Int32}
    (h : ((v1 < (1 : Int32) → Q (some (Value.int (-1 : Int32))) (xSH, xRF, I, L)) ∧ (¬ v1 < (1 : Int32) → (((I 5 0) < v1 → Q (some (Value.int (-1 : Int32))) (xSH, xRF, I, L)) ∧ (¬ (I 5 0) < v1 → xi_V (xG L0 xs) 96 0 [some (Value.ref 0), some (Value.int v2)] [] (xSH, xRF, I, L) 0 0 (fun r σ' => xi_V (xG L0 xs) 89 21 [some (Value.ref 0), some (Value.int v1), some (Value.int v2)] (r.toList ++ []) σ' 0 0 Q)))))) :
    xi_V (xG L0 xs) 89 0 [some (Value.ref 0), some (Value.int v1), some (Value.int v2)] [] (xSH, xRF, I, L) 0 0 Q := xi_go 89 [(21, [])] 400 (h)
theorem b_D_band_21 {L0 : Nat} {xs : Nat → Int32} {Q : xiQ} {I : Nat → Nat → Int32} {L : Nat → Nat → Int64} {v1 : Int32} {v2 : Int32} {s0 : Int32}
    (h : ((¬ s0 = (0 : Int32) → xi_V (xG L0 xs) 26 0 [some (Value.ref 31), some (Value.ref 5), some (Value.int v1), none, none] [] (xSH, xRF, I, L) 0 0 (fun r σ' => xi_V (xG L0 xs) 89 38 [some (Value.ref 0), some (Value.int v1), some (Value.int v2)] (r.toList ++ []) σ' 0 0 Q)) ∧ (s0 = (0 : Int32) → Q (some (Value.int (-1 : Int32))) (xSH, xRF, I, L)))) :
    xi_V (xG L0 xs) 89 21 [some (Value.ref 0), some (Value.int v1), some (Value.int v2)] [Value.int s0] (xSH, xRF, I, L) 0 0 Q := xi_go 89 [(38, [])] 400 (h)
theorem b_D_band_38 {L0 : Nat} {xs : Nat → Int32} {Q : xiQ} {I : Nat → Nat → Int32} {L : Nat → Nat → Int64} {v1 : Int32} {v2 : Int32}
    (h : xi_V (xG L0 xs) 31 0 [some (Value.ref 31), some (Value.int v1), some (Value.int v2), none, none] [] (xSH, xRF, I, L) 0 0 (fun r σ' => xi_V (xG L0 xs) 89 47 [some (Value.ref 0), some (Value.int v1), some (Value.int v2)] (r.toList ++ []) σ' 0 0 Q)) :
    xi_V (xG L0 xs) 89 38 [some (Value.ref 0), some (Value.int v1), some (Value.int v2)] [] (xSH, xRF, I, L) 0 0 Q := xi_go 89 [(47, [])] 400 (h)
theorem b_D_band_47 {L0 : Nat} {xs : Nat → Int32} {Q : xiQ} {I : Nat → Nat → Int32} {L : Nat → Nat → Int64} {v1 : Int32} {v2 : Int32} {s0 : Int32}
    (h : Q (some (Value.int s0)) (xSH, xRF, I, L)) :
    xi_V (xG L0 xs) 89 47 [some (Value.ref 0), some (Value.int v1), some (Value.int v2)] [Value.int s0] (xSH, xRF, I, L) 0 0 Q := xi_go 89 [] 400 (h)
theorem b_D_look_0 {L0 : Nat} {xs : Nat → Int32} {Q : xiQ} {I : Nat → Nat → Int32} {L : Nat → Nat → Int64} {v1 : Int32}
    (h : (((v1.toInt < 0 ∨ 2 < v1.toInt) → Q (some (Value.int (-1 : Int32))) (xSH, xRF, I, L)) ∧ (v1.toInt = 0 → Q (some (Value.int (I 14 0))) (xSH, xRF, I, L)) ∧ (v1.toInt = 1 → xi_V (xG L0 xs) 13 0 [some (Value.ref 15), none] [] (xSH, xRF, I, L) 0 0 (fun r σ' => xi_V (xG L0 xs) 90 46 [some (Value.ref 0), some (Value.int v1)] (r.toList ++ []) σ' 0 0 Q)) ∧ (v1.toInt = 2 → xi_V (xG L0 xs) 13 0 [some (Value.ref 17), none] [] (xSH, xRF, I, L) 0 0 (fun r σ' => xi_V (xG L0 xs) 90 57 [some (Value.ref 0), some (Value.int v1)] (r.toList ++ []) σ' 0 0 Q)) ∧ True)) :
    xi_V (xG L0 xs) 90 0 [some (Value.ref 0), some (Value.int v1)] [] (xSH, xRF, I, L) 0 0 Q := xi_go 90 [(46, []), (57, [])] 400 (h)
theorem b_D_look_46 {L0 : Nat} {xs : Nat → Int32} {Q : xiQ} {I : Nat → Nat → Int32} {L : Nat → Nat → Int64} {v1 : Int32} {s0 : Int32}
    (h : Q (some (Value.int s0)) (xSH, xRF, I, L)) :
    xi_V (xG L0 xs) 90 46 [some (Value.ref 0), some (Value.int v1)] [Value.int s0] (xSH, xRF, I, L) 0 0 Q := xi_go 90 [] 400 (h)
theorem b_D_look_57 {L0 : Nat} {xs : Nat → Int32} {Q : xiQ} {I : Nat → Nat → Int32} {L : Nat → Nat → Int64} {v1 : Int32} {s0 : Int32}
    (h : Q (some (Value.int s0)) (xSH, xRF, I, L)) :
    xi_V (xG L0 xs) 90 57 [some (Value.ref 0), some (Value.int v1)] [Value.int s0] (xSH, xRF, I, L) 0 0 Q := xi_go 90 [] 400 (h)
theorem b_D_part_0 {L0 : Nat} {xs : Nat → Int32} {Q : xiQ} {I : Nat → Nat → Int32} {L : Nat → Nat → Int64} {v1 : Int32} {v2 : Int32}
    (h : ((v2 < (0 : Int32) → Q (some (Value.int (0 : Int32))) (xSH, xRF, I, L)) ∧ (¬ v2 < (0 : Int32) → ((v2 < (20 : Int32) → ((v1 = (0 : Int32) → vp_in v2 20 ∧ (Q (some (Value.int (Int64.toInt32 (L 16 v2.toNatClampNeg)))) (xSH, xRF, I, L))) ∧ (¬ v1 = (0 : Int32) → vp_in v2 20 ∧ (Q (some (Value.int (Int64.toInt32 (L 18 v2.toNatClampNeg)))) (xSH, xRF, I, L))))) ∧ (¬ v2 < (20 : Int32) → Q (some (Value.int (0 : Int32))) (xSH, xRF, I, L)))))) :
    xi_V (xG L0 xs) 91 0 [some (Value.ref 0), some (Value.int v1), some (Value.int v2)] [] (xSH, xRF, I, L) 0 0 Q := xi_go 91 [] 400 (h)
theorem b_D_count_0 {L0 : Nat} {xs : Nat → Int32} {Q : xiQ} {I : Nat → Nat → Int32} {L : Nat → Nat → Int64} {v1 : Int32}
    (h : (((v1.toInt < 0 ∨ 3 < v1.toInt) → xi_V (xG L0 xs) 93 0 [some (Value.ref 0), some (Value.int v1)] [] (xSH, xRF, I, L) 0 0 (fun r σ' => xi_V (xG L0 xs) 92 90 [some (Value.ref 0), some (Value.int v1)] (r.toList ++ []) σ' 0 0 Q)) ∧ (v1.toInt = 0 → Q (some (Value.int (I 5 0))) (xSH, xRF, I, L)) ∧ (v1.toInt = 1 → Q (some (Value.int (I 10 0))) (xSH, xRF, I, L)) ∧ (v1.toInt = 2 → ((¬ (I 10 0) = (1 : Int32) → Q (some (Value.int (I 10 1))) (xSH, xRF, I, L)) ∧ ((I 10 0) = (1 : Int32) → xi_V (xG L0 xs) 40 0 [some (Value.ref 10), none, none] [] (xSH, xRF, I, L) 0 0 (fun r σ' => xi_V (xG L0 xs) 92 66 [some (Value.ref 0), some (Value.int v1)] (r.toList ++ []) σ' 0 0 Q)))) ∧ (v1.toInt = 3 → xi_V (xG L0 xs) 60 0 [some (Value.ref 1), none, none] [] (xSH, xRF, I, L) 0 0 (fun r σ' => xi_V (xG L0 xs) 92 84 [some (Value.ref 0), some (Value.int v1)] (r.toList ++ []) σ' 0 0 Q)) ∧ True)) :
    xi_V (xG L0 xs) 92 0 [some (Value.ref 0), some (Value.int v1)] [] (xSH, xRF, I, L) 0 0 Q := xi_go 92 [(66, []), (84, []), (90, [])] 400 (h)
theorem b_D_count_66 {L0 : Nat} {xs : Nat → Int32} {Q : xiQ} {I : Nat → Nat → Int32} {L : Nat → Nat → Int64} {v1 : Int32} {s0 : Int32}
    (h : Q (some (Value.int s0)) (xSH, xRF, I, L)) :
    xi_V (xG L0 xs) 92 66 [some (Value.ref 0), some (Value.int v1)] [Value.int s0] (xSH, xRF, I, L) 0 0 Q := xi_go 92 [] 400 (h)
theorem b_D_count_84 {L0 : Nat} {xs : Nat → Int32} {Q : xiQ} {I : Nat → Nat → Int32} {L : Nat → Nat → Int64} {v1 : Int32} {s0 : Int32}
    (h : Q (some (Value.int s0)) (xSH, xRF, I, L)) :
    xi_V (xG L0 xs) 92 84 [some (Value.ref 0), some (Value.int v1)] [Value.int s0] (xSH, xRF, I, L) 0 0 Q := xi_go 92 [] 400 (h)
theorem b_D_count_90 {L0 : Nat} {xs : Nat → Int32} {Q : xiQ} {I : Nat → Nat → Int32} {L : Nat → Nat → Int64} {v1 : Int32} {s0 : Int32}
    (h : Q (some (Value.int s0)) (xSH, xRF, I, L)) :
    xi_V (xG L0 xs) 92 90 [some (Value.ref 0), some (Value.int v1)] [Value.int s0] (xSH, xRF, I, L) 0 0 Q := xi_go 92 [] 400 (h)
theorem b_D_countOfHeap_0 {L0 : Nat} {xs : Nat → Int32} {Q : xiQ} {I : Nat → Nat → Int32} {L : Nat → Nat → Int64} {v1 : Int32}
    (h : ((v1 < (10 : Int32) → xi_V (xG L0 xs) 93 24 [some (Value.ref 0), some (Value.int v1)] [] (xSH, xRF, I, L) 0 0 Q) ∧ (¬ v1 < (10 : Int32) → (((14 : Int32) ≤ v1 → xi_V (xG L0 xs) 93 24 [some (Value.ref 0), some (Value.int v1)] [] (xSH, xRF, I, L) 0 0 Q) ∧ (¬ (14 : Int32) ≤ v1 → xi_V (xG L0 xs) 19 0 [some (Value.ref 5), some (Value.int (v1 - (10 : Int32)))] [] (xSH, xRF, I, L) 0 0 (fun r σ' => xi_V (xG L0 xs) 93 23 [some (Value.ref 0), some (Value.int v1)] (r.toList ++ []) σ' 0 0 Q)))))) :
    xi_V (xG L0 xs) 93 0 [some (Value.ref 0), some (Value.int v1)] [] (xSH, xRF, I, L) 0 0 Q := xi_go 93 [(23, []), (24, [])] 400 (h)
theorem b_D_countOfHeap_23 {L0 : Nat} {xs : Nat → Int32} {Q : xiQ} {I : Nat → Nat → Int32} {L : Nat → Nat → Int64} {v1 : Int32} {s0 : Int32}
    (h : Q (some (Value.int s0)) (xSH, xRF, I, L)) :
    xi_V (xG L0 xs) 93 23 [some (Value.ref 0), some (Value.int v1)] [Value.int s0] (xSH, xRF, I, L) 0 0 Q := xi_go 93 [] 400 (h)
theorem b_D_countOfHeap_24 {L0 : Nat} {xs : Nat → Int32} {Q : xiQ} {I : Nat → Nat → Int32} {L : Nat → Nat → Int64} {v1 : Int32}
    (h : ((v1 < (20 : Int32) → Q (some (Value.int (-1 : Int32))) (xSH, xRF, I, L)) ∧ (¬ v1 < (20 : Int32) → (((24 : Int32) ≤ v1 → Q (some (Value.int (-1 : Int32))) (xSH, xRF, I, L)) ∧ (¬ (24 : Int32) ≤ v1 → vp_in (v1 - (20 : Int32)) 4 ∧ (Q (some (Value.int (I 11 (v1 - (20 : Int32)).toNatClampNeg))) (xSH, xRF, I, L))))))) :
    xi_V (xG L0 xs) 93 24 [some (Value.ref 0), some (Value.int v1)] [] (xSH, xRF, I, L) 0 0 Q := xi_go 93 [] 400 (h)
theorem b_D_isSlot_0 {L0 : Nat} {xs : Nat → Int32} {Q : xiQ} {I : Nat → Nat → Int32} {L : Nat → Nat → Int64} {v0 : Int32}
    (h : ((v0 < (0 : Int32) → (((0 : Int32) = 0 ∨ (0 : Int32) = 1) ∧ Q (some (Value.int (0 : Int32))) (xSH, xRF, I, L))) ∧ (¬ v0 < (0 : Int32) → (((8 : Int32) ≤ v0 → (((0 : Int32) = 0 ∨ (0 : Int32) = 1) ∧ Q (some (Value.int (0 : Int32))) (xSH, xRF, I, L))) ∧ (¬ (8 : Int32) ≤ v0 → (((1 : Int32) = 0 ∨ (1 : Int32) = 1) ∧ Q (some (Value.int (1 : Int32))) (xSH, xRF, I, L))))))) :
    xi_V (xG L0 xs) 94 0 [some (Value.int v0)] [] (xSH, xRF, I, L) 0 0 Q := xi_go 94 [] 400 (h)
theorem b_D_isHeap_0 {L0 : Nat} {xs : Nat → Int32} {Q : xiQ} {I : Nat → Nat → Int32} {L : Nat → Nat → Int64} {v0 : Int32}
    (h : ((v0 < (0 : Int32) → (((0 : Int32) = 0 ∨ (0 : Int32) = 1) ∧ Q (some (Value.int (0 : Int32))) (xSH, xRF, I, L))) ∧ (¬ v0 < (0 : Int32) → (((4 : Int32) ≤ v0 → (((0 : Int32) = 0 ∨ (0 : Int32) = 1) ∧ Q (some (Value.int (0 : Int32))) (xSH, xRF, I, L))) ∧ (¬ (4 : Int32) ≤ v0 → (((1 : Int32) = 0 ∨ (1 : Int32) = 1) ∧ Q (some (Value.int (1 : Int32))) (xSH, xRF, I, L))))))) :
    xi_V (xG L0 xs) 95 0 [some (Value.int v0)] [] (xSH, xRF, I, L) 0 0 Q := xi_go 95 [] 400 (h)
theorem b_D_isName_0 {L0 : Nat} {xs : Nat → Int32} {Q : xiQ} {I : Nat → Nat → Int32} {L : Nat → Nat → Int64} {v1 : Int32}
    (h : ((v1 < (0 : Int32) → (((0 : Int32) = 0 ∨ (0 : Int32) = 1) ∧ Q (some (Value.int (0 : Int32))) (xSH, xRF, I, L))) ∧ (¬ v1 < (0 : Int32) → (((I 5 0) ≤ v1 → (((0 : Int32) = 0 ∨ (0 : Int32) = 1) ∧ Q (some (Value.int (0 : Int32))) (xSH, xRF, I, L))) ∧ (¬ (I 5 0) ≤ v1 → (((1 : Int32) = 0 ∨ (1 : Int32) = 1) ∧ Q (some (Value.int (1 : Int32))) (xSH, xRF, I, L))))))) :
    xi_V (xG L0 xs) 96 0 [some (Value.ref 0), some (Value.int v1)] [] (xSH, xRF, I, L) 0 0 Q := xi_go 96 [] 400 (h)
theorem b_D_isSet_0 {L0 : Nat} {xs : Nat → Int32} {Q : xiQ} {I : Nat → Nat → Int32} {L : Nat → Nat → Int64} {v1 : Int32}
    (h : ((v1 < (0 : Int32) → (((0 : Int32) = 0 ∨ (0 : Int32) = 1) ∧ Q (some (Value.int (0 : Int32))) (xSH, xRF, I, L))) ∧ (¬ v1 < (0 : Int32) → xi_V (xG L0 xs) 18 0 [some (Value.ref 5)] [] (xSH, xRF, I, L) 0 0 (fun r σ' => xi_V (xG L0 xs) 97 12 [some (Value.ref 0), some (Value.int v1)] (r.toList ++ [Value.int v1]) σ' 0 0 Q)))) :
    xi_V (xG L0 xs) 97 0 [some (Value.ref 0), some (Value.int v1)] [] (xSH, xRF, I, L) 0 0 Q := xi_go 97 [(12, [])] 400 (h)
theorem b_D_isSet_12 {L0 : Nat} {xs : Nat → Int32} {Q : xiQ} {I : Nat → Nat → Int32} {L : Nat → Nat → Int64} {v1 : Int32} {s0 : Int32} {s1 : Int32}
    (h : ((s1 ≤ s0 → (((0 : Int32) = 0 ∨ (0 : Int32) = 1) ∧ Q (some (Value.int (0 : Int32))) (xSH, xRF, I, L))) ∧ (¬ s1 ≤ s0 → (((1 : Int32) = 0 ∨ (1 : Int32) = 1) ∧ Q (some (Value.int (1 : Int32))) (xSH, xRF, I, L))))) :
    xi_V (xG L0 xs) 97 12 [some (Value.ref 0), some (Value.int v1)] [Value.int s1, Value.int s0] (xSH, xRF, I, L) 0 0 Q := xi_go 97 [] 400 (h)
theorem b_D_canStep_0 {L0 : Nat} {xs : Nat → Int32} {Q : xiQ} {I : Nat → Nat → Int32} {L : Nat → Nat → Int64} {v1 : Int32}
    (h : (((1 : Int32) ≤ v1 → xi_V (xG L0 xs) 21 0 [some (Value.ref 5), none, none] [] (xSH, xRF, I, L) 0 0 (fun r σ' => xi_V (xG L0 xs) 98 14 [some (Value.ref 0), some (Value.int v1), none, none] (r.toList ++ []) σ' 0 0 Q)) ∧ (¬ (1 : Int32) ≤ v1 → (((0 : Int32) = 0 ∨ (0 : Int32) = 1) ∧ Q (some (Value.int (0 : Int32))) (xSH, xRF, I, L))))) :
    xi_V (xG L0 xs) 98 0 [some (Value.ref 0), some (Value.int v1), none, none] [] (xSH, xRF, I, L) 0 0 Q := xi_go 98 [(14, [])] 400 (h)
theorem b_D_canStep_14 {L0 : Nat} {xs : Nat → Int32} {Q : xiQ} {I : Nat → Nat → Int32} {L : Nat → Nat → Int64} {v1 : Int32} {s0 : Int32}
    (h : xi_V (xG L0 xs) 98 17 [some (Value.ref 0), some (Value.int v1), some (Value.int s0), some (Value.int (0 : Int32))] [] (xSH, xRF, I, L) 0 0 Q) :
    xi_V (xG L0 xs) 98 14 [some (Value.ref 0), some (Value.int v1), none, none] [Value.int s0] (xSH, xRF, I, L) 0 0 Q := xi_go 98 [(17, [])] 400 (h)
theorem b_D_canStep_17 {L0 : Nat} {xs : Nat → Int32} {Q : xiQ} {I : Nat → Nat → Int32} {L : Nat → Nat → Int64} {v1 : Int32} {v2 : Int32} {v3 : Int32}
    (h : (((I 5 0) ≤ v3 → (((1 : Int32) = 0 ∨ (1 : Int32) = 1) ∧ Q (some (Value.int (1 : Int32))) (xSH, xRF, I, L))) ∧ (¬ (I 5 0) ≤ v3 → vp_in v3 10 ∧ (((((I 7 v3.toNatClampNeg) * v1) ≤ v2 → xi_V (xG L0 xs) 98 17 [some (Value.ref 0), some (Value.int v1), some (Value.int v2), some (Value.int (v3 + (1 : Int32)))] [] (xSH, xRF, I, L) 0 0 Q) ∧ (¬ ((I 7 v3.toNatClampNeg) * v1) ≤ v2 → (((0 : Int32) = 0 ∨ (0 : Int32) = 1) ∧ Q (some (Value.int (0 : Int32))) (xSH, xRF, I, L)))))))) :
    xi_V (xG L0 xs) 98 17 [some (Value.ref 0), some (Value.int v1), some (Value.int v2), some (Value.int v3)] [] (xSH, xRF, I, L) 0 0 Q := xi_go 98 [(17, [])] 400 (h)
theorem b_D_canShareOut_0 {L0 : Nat} {xs : Nat → Int32} {Q : xiQ} {I : Nat → Nat → Int32} {L : Nat → Nat → Int64} {v1 : Int32}
    (h : xi_V (xG L0 xs) 20 0 [some (Value.ref 5), none, none] [] (xSH, xRF, I, L) 0 0 (fun r σ' => xi_V (xG L0 xs) 99 8 [some (Value.ref 0), some (Value.int v1)] (r.toList ++ [Value.int v1]) σ' 0 0 Q)) :
    xi_V (xG L0 xs) 99 0 [some (Value.ref 0), some (Value.int v1)] [] (xSH, xRF, I, L) 0 0 Q := xi_go 99 [(8, [])] 400 (h)
theorem b_D_canShareOut_8 {L0 : Nat} {xs : Nat → Int32} {Q : xiQ} {I : Nat → Nat → Int32} {L : Nat → Nat → Int64} {v1 : Int32} {s0 : Int32} {s1 : Int32}
    (h : ((s0 < s1 → (((0 : Int32) = 0 ∨ (0 : Int32) = 1) ∧ Q (some (Value.int (0 : Int32))) (xSH, xRF, I, L))) ∧ (¬ s0 < s1 → (((I 5 0) < v1 → (((0 : Int32) = 0 ∨ (0 : Int32) = 1) ∧ Q (some (Value.int (0 : Int32))) (xSH, xRF, I, L))) ∧ (¬ (I 5 0) < v1 → (((1 : Int32) = 0 ∨ (1 : Int32) = 1) ∧ Q (some (Value.int (1 : Int32))) (xSH, xRF, I, L))))))) :
    xi_V (xG L0 xs) 99 8 [some (Value.ref 0), some (Value.int v1)] [Value.int s1, Value.int s0] (xSH, xRF, I, L) 0 0 Q := xi_go 99 [] 400 (h)
theorem b_D_tellOwnChance_0 {L0 : Nat} {xs : Nat → Int32} {Q : xiQ} {I : Nat → Nat → Int32} {L : Nat → Nat → Int64} {v1 : Int32}
    (h : xi_V (xG L0 xs) 9 0 [some (Value.ref 15), some (Value.long (1 : Int64)), none, none, none, none] [] (xSH, xRF, I, L) 0 0 (fun r σ' => xi_V (xG L0 xs) 100 11 [some (Value.ref 0), some (Value.int v1), none, none] (r.toList ++ []) σ' 0 0 Q)) :
    xi_V (xG L0 xs) 100 0 [some (Value.ref 0), some (Value.int v1), none, none] [] (xSH, xRF, I, L) 0 0 Q := xi_go 100 [(11, [])] 400 (h)
theorem b_D_tellOwnChance_11 {L0 : Nat} {xs : Nat → Int32} {Q : xiQ} {I : Nat → Nat → Int32} {L : Nat → Nat → Int64} {v1 : Int32}
    (h : xi_V (xG L0 xs) 100 13 [some (Value.ref 0), some (Value.int v1), some (Value.int (0 : Int32)), none] [] (xSH, xRF, I, L) 0 0 Q) :
    xi_V (xG L0 xs) 100 11 [some (Value.ref 0), some (Value.int v1), none, none] [] (xSH, xRF, I, L) 0 0 Q := xi_go 100 [(13, [])] 400 (h)
theorem b_D_tellOwnChance_13 {L0 : Nat} {xs : Nat → Int32} {Q : xiQ} {I : Nat → Nat → Int32} {L : Nat → Nat → Int64} {v1 : Int32} {v2 : Int32}
    (h : (((I 5 0) ≤ v2 → xi_V (xG L0 xs) 34 0 [some (Value.ref 14)] [] (xSH, xRF, I, L) 0 0 (fun r σ' => xi_V (xG L0 xs) 100 76 [some (Value.ref 0), some (Value.int v1), some (Value.int v2), none] (r.toList ++ []) σ' 0 0 Q)) ∧ (¬ (I 5 0) ≤ v2 → vp_in v2 10 ∧ (((¬ ((v1 >>> (v2 &&& 31)) &&& (1 : Int32)) = (1 : Int32) → xi_V (xG L0 xs) 10 0 [some (Value.ref 15), some (Value.long (Int32.toInt64 ((100 : Int32) - (I 8 v2.toNatClampNeg)))), none, none, none, none, none, none, none, none, none, none, none, none, none, none] [] (xSH, xRF, I, L) 0 0 (fun r σ' => xi_V (xG L0 xs) 100 63 [some (Value.ref 0), some (Value.int v1), some (Value.int v2), some (Value.int (I 8 v2.toNatClampNeg))] (r.toList ++ []) σ' 0 0 Q)) ∧ (((v1 >>> (v2 &&& 31)) &&& (1 : Int32)) = (1 : Int32) → xi_V (xG L0 xs) 10 0 [some (Value.ref 15), some (Value.long (Int32.toInt64 (I 8 v2.toNatClampNeg))), none, none, none, none, none, none, none, none, none, none, none, none, none, none] [] (xSH, xRF, I, L) 0 0 (fun r σ' => xi_V (xG L0 xs) 100 63 [some (Value.ref 0), some (Value.int v1), some (Value.int v2), some (Value.int (I 8 v2.toNatClampNeg))] (r.toList ++ []) σ' 0 0 Q))))))) :
    xi_V (xG L0 xs) 100 13 [some (Value.ref 0), some (Value.int v1), some (Value.int v2), none] [] (xSH, xRF, I, L) 0 0 Q := xi_go 100 [(63, []), (76, [])] 400 (h)
theorem b_D_tellOwnChance_63 {L0 : Nat} {xs : Nat → Int32} {Q : xiQ} {I : Nat → Nat → Int32} {L : Nat → Nat → Int64} {v1 : Int32} {v2 : Int32} {v3 : Int32}
    (h : xi_V (xG L0 xs) 100 13 [some (Value.ref 0), some (Value.int v1), some (Value.int (v2 + (1 : Int32))), none] [] (xSH, xRF, I, L) 0 0 Q) :
    xi_V (xG L0 xs) 100 63 [some (Value.ref 0), some (Value.int v1), some (Value.int v2), some (Value.int v3)] [] (xSH, xRF, I, L) 0 0 Q := xi_go 100 [(13, [3])] 400 (h)
theorem b_D_tellOwnChance_76 {L0 : Nat} {xs : Nat → Int32} {Q : xiQ} {I : Nat → Nat → Int32} {L : Nat → Nat → Int64} {v1 : Int32} {v2 : Int32}
    (h : xi_V (xG L0 xs) 100 78 [some (Value.ref 0), some (Value.int v1), some (Value.int (0 : Int32)), none] [] (xSH, xRF, I, L) 0 0 Q) :
    xi_V (xG L0 xs) 100 76 [some (Value.ref 0), some (Value.int v1), some (Value.int v2), none] [] (xSH, xRF, I, L) 0 0 Q := xi_go 100 [(78, [])] 400 (h)
theorem b_D_tellOwnChance_78 {L0 : Nat} {xs : Nat → Int32} {Q : xiQ} {I : Nat → Nat → Int32} {L : Nat → Nat → Int64} {v1 : Int32} {v2 : Int32}
    (h : (((I 5 0) ≤ v2 → Q none (xSH, xRF, I, L)) ∧ (¬ (I 5 0) ≤ v2 → xi_V (xG L0 xs) 35 0 [some (Value.ref 14), some (Value.long (100 : Int64)), none, none, none] [] (xSH, xRF, I, L) 0 0 (fun r σ' => xi_V (xG L0 xs) 100 99 [some (Value.ref 0), some (Value.int v1), some (Value.int v2), none] (r.toList ++ []) σ' 0 0 Q)))) :
    xi_V (xG L0 xs) 100 78 [some (Value.ref 0), some (Value.int v1), some (Value.int v2), none] [] (xSH, xRF, I, L) 0 0 Q := xi_go 100 [(99, [])] 400 (h)
theorem b_D_tellOwnChance_99 {L0 : Nat} {xs : Nat → Int32} {Q : xiQ} {I : Nat → Nat → Int32} {L : Nat → Nat → Int64} {v1 : Int32} {v2 : Int32}
    (h : xi_V (xG L0 xs) 100 78 [some (Value.ref 0), some (Value.int v1), some (Value.int (v2 + (1 : Int32))), none] [] (xSH, xRF, I, L) 0 0 Q) :
    xi_V (xG L0 xs) 100 99 [some (Value.ref 0), some (Value.int v1), some (Value.int v2), none] [] (xSH, xRF, I, L) 0 0 Q := xi_go 100 [(78, [])] 400 (h)
theorem b_D_tellSum_0 {L0 : Nat} {xs : Nat → Int32} {Q : xiQ} {I : Nat → Nat → Int32} {L : Nat → Nat → Int64} {v1 : Int32}
    (h : xi_V (xG L0 xs) 68 0 [some (Value.ref 21)] [] (xSH, xRF, I, L) 0 0 (fun r σ' => xi_V (xG L0 xs) 101 7 [some (Value.ref 0), some (Value.int v1), none] (r.toList ++ []) σ' 0 0 Q)) :
    xi_V (xG L0 xs) 101 0 [some (Value.ref 0), some (Value.int v1), none] [] (xSH, xRF, I, L) 0 0 Q := xi_go 101 [(7, [])] 400 (h)
theorem b_D_tellSum_7 {L0 : Nat} {xs : Nat → Int32} {Q : xiQ} {I : Nat → Nat → Int32} {L : Nat → Nat → Int64} {v1 : Int32}
    (h : xi_V (xG L0 xs) 101 9 [some (Value.ref 0), some (Value.int v1), some (Value.int (0 : Int32))] [] (xSH, xRF, I, L) 0 0 Q) :
    xi_V (xG L0 xs) 101 7 [some (Value.ref 0), some (Value.int v1), none] [] (xSH, xRF, I, L) 0 0 Q := xi_go 101 [(9, [])] 400 (h)
theorem b_D_tellSum_9 {L0 : Nat} {xs : Nat → Int32} {Q : xiQ} {I : Nat → Nat → Int32} {L : Nat → Nat → Int64} {v1 : Int32} {v2 : Int32}
    (h : (((I 5 0) ≤ v2 → xi_V (xG L0 xs) 9 0 [some (Value.ref 15), some (Value.long (0 : Int64)), none, none, none, none] [] (xSH, xRF, I, L) 0 0 (fun r σ' => xi_V (xG L0 xs) 101 84 [some (Value.ref 0), some (Value.int v1), some (Value.int v2)] (r.toList ++ []) σ' 0 0 Q)) ∧ (¬ (I 5 0) ≤ v2 → ((¬ ((v1 >>> (v2 &&& 31)) &&& (1 : Int32)) = (1 : Int32) → xi_V (xG L0 xs) 101 67 [some (Value.ref 0), some (Value.int v1), some (Value.int v2)] [] (xSH, xRF, I, L) 0 0 Q) ∧ (((v1 >>> (v2 &&& 31)) &&& (1 : Int32)) = (1 : Int32) → xi_V (xG L0 xs) 41 0 [some (Value.ref 10), some (Value.int v2)] [] (xSH, xRF, I, L) 0 0 (fun r σ' => xi_V (xG L0 xs) 101 37 [some (Value.ref 0), some (Value.int v1), some (Value.int v2)] (r.toList ++ []) σ' 0 0 Q)))))) :
    xi_V (xG L0 xs) 101 9 [some (Value.ref 0), some (Value.int v1), some (Value.int v2)] [] (xSH, xRF, I, L) 0 0 Q := xi_go 101 [(37, []), (67, []), (84, [])] 400 (h)
theorem b_D_tellSum_37 {L0 : Nat} {xs : Nat → Int32} {Q : xiQ} {I : Nat → Nat → Int32} {L : Nat → Nat → Int64} {v1 : Int32} {v2 : Int32} {t0 : Int64}
    (h : (((lg_cmp t0 (0 : Int64)) ≤ (0 : Int32) → xi_V (xG L0 xs) 101 67 [some (Value.ref 0), some (Value.int v1), some (Value.int v2)] [] (xSH, xRF, I, L) 0 0 Q) ∧ (¬ (lg_cmp t0 (0 : Int64)) ≤ (0 : Int32) → vp_in v2 10 ∧ (xi_V (xG L0 xs) 41 0 [some (Value.ref 10), some (Value.int v2)] [] (xSH, xRF, I, L) 0 0 (fun r σ' => xi_V (xG L0 xs) 101 64 [some (Value.ref 0), some (Value.int v1), some (Value.int v2)] (r.toList ++ [Value.long (Int32.toInt64 (I 6 v2.toNatClampNeg)), Value.ref 21]) σ' 0 0 Q))))) :
    xi_V (xG L0 xs) 101 37 [some (Value.ref 0), some (Value.int v1), some (Value.int v2)] [Value.long t0] (xSH, xRF, I, L) 0 0 Q := xi_go 101 [(64, []), (67, [])] 400 (h)
theorem b_D_tellSum_64 {L0 : Nat} {xs : Nat → Int32} {Q : xiQ} {I : Nat → Nat → Int32} {L : Nat → Nat → Int64} {v1 : Int32} {v2 : Int32} {t1 : Int64} {t2 : Int64}
    (h : xi_V (xG L0 xs) 69 0 [some (Value.ref 21), some (Value.long t1), none, some (Value.long t2), none] [] (xSH, xRF, I, L) 0 0 (fun r σ' => xi_V (xG L0 xs) 101 67 [some (Value.ref 0), some (Value.int v1), some (Value.int v2)] (r.toList ++ []) σ' 0 0 Q)) :
    xi_V (xG L0 xs) 101 64 [some (Value.ref 0), some (Value.int v1), some (Value.int v2)] [Value.long t2, Value.long t1, Value.ref 21] (xSH, xRF, I, L) 0 0 Q := xi_go 101 [(67, [])] 400 (h)
theorem b_D_tellSum_67 {L0 : Nat} {xs : Nat → Int32} {Q : xiQ} {I : Nat → Nat → Int32} {L : Nat → Nat → Int64} {v1 : Int32} {v2 : Int32}
    (h : xi_V (xG L0 xs) 101 9 [some (Value.ref 0), some (Value.int v1), some (Value.int (v2 + (1 : Int32)))] [] (xSH, xRF, I, L) 0 0 Q) :
    xi_V (xG L0 xs) 101 67 [some (Value.ref 0), some (Value.int v1), some (Value.int v2)] [] (xSH, xRF, I, L) 0 0 Q := xi_go 101 [(9, [])] 400 (h)
theorem b_D_tellSum_84 {L0 : Nat} {xs : Nat → Int32} {Q : xiQ} {I : Nat → Nat → Int32} {L : Nat → Nat → Int64} {v1 : Int32} {v2 : Int32}
    (h : xi_V (xG L0 xs) 11 0 [some (Value.ref 15), some (Value.ref 22), some (Value.long (L 10 6)), none, none, none, none, none, none, none, none, none, none, none, none, none, none] [] (xSH, xRF, I, L) 0 0 (fun r σ' => xi_V (xG L0 xs) 101 108 [some (Value.ref 0), some (Value.int v1), some (Value.int v2)] (r.toList ++ []) σ' 0 0 Q)) :
    xi_V (xG L0 xs) 101 84 [some (Value.ref 0), some (Value.int v1), some (Value.int v2)] [] (xSH, xRF, I, L) 0 0 Q := xi_go 101 [(108, [])] 400 (h)
theorem b_D_tellSum_108 {L0 : Nat} {xs : Nat → Int32} {Q : xiQ} {I : Nat → Nat → Int32} {L : Nat → Nat → Int64} {v1 : Int32} {v2 : Int32}
    (h : xi_V (xG L0 xs) 34 0 [some (Value.ref 14)] [] (xSH, xRF, I, L) 0 0 (fun r σ' => xi_V (xG L0 xs) 101 115 [some (Value.ref 0), some (Value.int v1), some (Value.int v2)] (r.toList ++ []) σ' 0 0 Q)) :
    xi_V (xG L0 xs) 101 108 [some (Value.ref 0), some (Value.int v1), some (Value.int v2)] [] (xSH, xRF, I, L) 0 0 Q := xi_go 101 [(115, [])] 400 (h)
theorem b_D_tellSum_115 {L0 : Nat} {xs : Nat → Int32} {Q : xiQ} {I : Nat → Nat → Int32} {L : Nat → Nat → Int64} {v1 : Int32} {v2 : Int32}
    (h : xi_V (xG L0 xs) 102 0 [some (Value.ref 0), some (Value.int v1), none] [] (xSH, xRF, I, L) 0 0 (fun r σ' => xi_V (xG L0 xs) 101 120 [some (Value.ref 0), some (Value.int v1), some (Value.int v2)] (r.toList ++ []) σ' 0 0 Q)) :
    xi_V (xG L0 xs) 101 115 [some (Value.ref 0), some (Value.int v1), some (Value.int v2)] [] (xSH, xRF, I, L) 0 0 Q := xi_go 101 [(120, [])] 400 (h)
theorem b_D_tellSum_120 {L0 : Nat} {xs : Nat → Int32} {Q : xiQ} {I : Nat → Nat → Int32} {L : Nat → Nat → Int64} {v1 : Int32} {v2 : Int32}
    (h : Q none (xSH, xRF, I, L)) :
    xi_V (xG L0 xs) 101 120 [some (Value.ref 0), some (Value.int v1), some (Value.int v2)] [] (xSH, xRF, I, L) 0 0 Q := xi_go 101 [] 400 (h)
theorem b_D_divideByNames_0 {L0 : Nat} {xs : Nat → Int32} {Q : xiQ} {I : Nat → Nat → Int32} {L : Nat → Nat → Int64} {v1 : Int32}
    (h : xi_V (xG L0 xs) 102 2 [some (Value.ref 0), some (Value.int v1), some (Value.int (0 : Int32))] [] (xSH, xRF, I, L) 0 0 Q) :
    xi_V (xG L0 xs) 102 0 [some (Value.ref 0), some (Value.int v1), none] [] (xSH, xRF, I, L) 0 0 Q := xi_go 102 [(2, [])] 400 (h)
theorem b_D_divideByNames_2 {L0 : Nat} {xs : Nat → Int32} {Q : xiQ} {I : Nat → Nat → Int32} {L : Nat → Nat → Int64} {v1 : Int32} {v2 : Int32}
    (h : (((I 5 0) ≤ v2 → Q none (xSH, xRF, I, L)) ∧ (¬ (I 5 0) ≤ v2 → ((¬ ((v1 >>> (v2 &&& 31)) &&& (1 : Int32)) = (1 : Int32) → xi_V (xG L0 xs) 102 50 [some (Value.ref 0), some (Value.int v1), some (Value.int v2)] [] (xSH, xRF, I, L) 0 0 Q) ∧ (((v1 >>> (v2 &&& 31)) &&& (1 : Int32)) = (1 : Int32) → xi_V (xG L0 xs) 41 0 [some (Value.ref 10), some (Value.int v2)] [] (xSH, xRF, I, L) 0 0 (fun r σ' => xi_V (xG L0 xs) 102 30 [some (Value.ref 0), some (Value.int v1), some (Value.int v2)] (r.toList ++ []) σ' 0 0 Q)))))) :
    xi_V (xG L0 xs) 102 2 [some (Value.ref 0), some (Value.int v1), some (Value.int v2)] [] (xSH, xRF, I, L) 0 0 Q := xi_go 102 [(30, []), (50, [])] 400 (h)
theorem b_D_divideByNames_30 {L0 : Nat} {xs : Nat → Int32} {Q : xiQ} {I : Nat → Nat → Int32} {L : Nat → Nat → Int64} {v1 : Int32} {v2 : Int32} {t0 : Int64}
    (h : (((lg_cmp t0 (0 : Int64)) ≤ (0 : Int32) → xi_V (xG L0 xs) 102 50 [some (Value.ref 0), some (Value.int v1), some (Value.int v2)] [] (xSH, xRF, I, L) 0 0 Q) ∧ (¬ (lg_cmp t0 (0 : Int64)) ≤ (0 : Int32) → xi_V (xG L0 xs) 41 0 [some (Value.ref 10), some (Value.int v2)] [] (xSH, xRF, I, L) 0 0 (fun r σ' => xi_V (xG L0 xs) 102 47 [some (Value.ref 0), some (Value.int v1), some (Value.int v2)] (r.toList ++ [Value.ref 14]) σ' 0 0 Q)))) :
    xi_V (xG L0 xs) 102 30 [some (Value.ref 0), some (Value.int v1), some (Value.int v2)] [Value.long t0] (xSH, xRF, I, L) 0 0 Q := xi_go 102 [(47, []), (50, [])] 400 (h)
theorem b_D_divideByNames_47 {L0 : Nat} {xs : Nat → Int32} {Q : xiQ} {I : Nat → Nat → Int32} {L : Nat → Nat → Int64} {v1 : Int32} {v2 : Int32} {t1 : Int64}
    (h : xi_V (xG L0 xs) 35 0 [some (Value.ref 14), some (Value.long t1), none, none, none] [] (xSH, xRF, I, L) 0 0 (fun r σ' => xi_V (xG L0 xs) 102 50 [some (Value.ref 0), some (Value.int v1), some (Value.int v2)] (r.toList ++ []) σ' 0 0 Q)) :
    xi_V (xG L0 xs) 102 47 [some (Value.ref 0), some (Value.int v1), some (Value.int v2)] [Value.long t1, Value.ref 14] (xSH, xRF, I, L) 0 0 Q := xi_go 102 [(50, [])] 400 (h)
theorem b_D_divideByNames_50 {L0 : Nat} {xs : Nat → Int32} {Q : xiQ} {I : Nat → Nat → Int32} {L : Nat → Nat → Int64} {v1 : Int32} {v2 : Int32}
    (h : xi_V (xG L0 xs) 102 2 [some (Value.ref 0), some (Value.int v1), some (Value.int (v2 + (1 : Int32)))] [] (xSH, xRF, I, L) 0 0 Q) :
    xi_V (xG L0 xs) 102 50 [some (Value.ref 0), some (Value.int v1), some (Value.int v2)] [] (xSH, xRF, I, L) 0 0 Q := xi_go 102 [(2, [])] 400 (h)
theorem b_D_worthThatMayBeDrawn_0 {L0 : Nat} {xs : Nat → Int32} {Q : xiQ} {I : Nat → Nat → Int32} {L : Nat → Nat → Int64}
    (h : xi_V (xG L0 xs) 103 4 [some (Value.ref 0), some (Value.int (0 : Int32)), some (Value.int (0 : Int32))] [] (xSH, xRF, I, L) 0 0 Q) :
    xi_V (xG L0 xs) 103 0 [some (Value.ref 0), none, none] [] (xSH, xRF, I, L) 0 0 Q := xi_go 103 [(4, [])] 400 (h)
theorem b_D_worthThatMayBeDrawn_4 {L0 : Nat} {xs : Nat → Int32} {Q : xiQ} {I : Nat → Nat → Int32} {L : Nat → Nat → Int64} {v1 : Int32} {v2 : Int32}
    (h : (((I 5 0) ≤ v2 → Q (some (Value.int v1)) (xSH, xRF, I, L)) ∧ (¬ (I 5 0) ≤ v2 → xi_V (xG L0 xs) 41 0 [some (Value.ref 10), some (Value.int v2)] [] (xSH, xRF, I, L) 0 0 (fun r σ' => xi_V (xG L0 xs) 103 23 [some (Value.ref 0), some (Value.int v1), some (Value.int v2)] (r.toList ++ []) σ' 0 0 Q)))) :
    xi_V (xG L0 xs) 103 4 [some (Value.ref 0), some (Value.int v1), some (Value.int v2)] [] (xSH, xRF, I, L) 0 0 Q := xi_go 103 [(23, [])] 400 (h)
theorem b_D_worthThatMayBeDrawn_23 {L0 : Nat} {xs : Nat → Int32} {Q : xiQ} {I : Nat → Nat → Int32} {L : Nat → Nat → Int64} {v1 : Int32} {v2 : Int32} {t0 : Int64}
    (h : (((lg_cmp t0 (0 : Int64)) ≤ (0 : Int32) → xi_V (xG L0 xs) 103 4 [some (Value.ref 0), some (Value.int v1), some (Value.int (v2 + (1 : Int32)))] [] (xSH, xRF, I, L) 0 0 Q) ∧ (¬ (lg_cmp t0 (0 : Int64)) ≤ (0 : Int32) → vp_in v2 10 ∧ (xi_V (xG L0 xs) 103 4 [some (Value.ref 0), some (Value.int (v1 + (I 6 v2.toNatClampNeg))), some (Value.int (v2 + (1 : Int32)))] [] (xSH, xRF, I, L) 0 0 Q)))) :
    xi_V (xG L0 xs) 103 23 [some (Value.ref 0), some (Value.int v1), some (Value.int v2)] [Value.long t0] (xSH, xRF, I, L) 0 0 Q := xi_go 103 [(43, [])] 400 (⟨fun c25 => (show xi_V (xG L0 xs) 103 43 [some (Value.ref 0), some (Value.int v1), some (Value.int (v2 + (1 : Int32)))] [] (xSH, xRF, I, L) 0 0 Q from xi_go 103 [(4, [])] 400 ((h).1 c25)), fun c25 => ⟨((h).2 c25).1, (show xi_V (xG L0 xs) 103 43 [some (Value.ref 0), some (Value.int (v1 + (I 6 v2.toNatClampNeg))), some (Value.int (v2 + (1 : Int32)))] [] (xSH, xRF, I, L) 0 0 Q from xi_go 103 [(4, [])] 400 (((h).2 c25).2))⟩⟩)
theorem b_D_tellSpread_0 {L0 : Nat} {xs : Nat → Int32} {Q : xiQ} {I : Nat → Nat → Int32} {L : Nat → Nat → Int64}
    (h : xi_V (xG L0 xs) 9 0 [some (Value.ref 15), some (Value.long (0 : Int64)), none, none, none, none] [] (xSH, xRF, I, L) 0 0 (fun r σ' => xi_V (xG L0 xs) 104 13 [some (Value.ref 0), some (Value.ref 15), none, none, none] (r.toList ++ []) σ' 0 0 Q)) :
    xi_V (xG L0 xs) 104 0 [some (Value.ref 0), none, none, none, none] [] (xSH, xRF, I, L) 0 0 Q := xi_go 104 [(13, [])] 400 (h)
theorem b_D_tellSpread_13 {L0 : Nat} {xs : Nat → Int32} {Q : xiQ} {I : Nat → Nat → Int32} {L : Nat → Nat → Int64}
    (h : xi_V (xG L0 xs) 104 15 [some (Value.ref 0), some (Value.ref 15), some (Value.int (0 : Int32)), none, none] [] (xSH, xRF, I, L) 0 0 Q) :
    xi_V (xG L0 xs) 104 13 [some (Value.ref 0), some (Value.ref 15), none, none, none] [] (xSH, xRF, I, L) 0 0 Q := xi_go 104 [(15, [])] 400 (h)
theorem b_D_tellSpread_15 {L0 : Nat} {xs : Nat → Int32} {Q : xiQ} {I : Nat → Nat → Int32} {L : Nat → Nat → Int64} {v2 : Int32}
    (h : (((I 5 0) ≤ v2 → xi_V (xG L0 xs) 10 0 [some (Value.ref 15), some (Value.long (L 10 6)), none, none, none, none, none, none, none, none, none, none, none, none, none, none] [] (xSH, xRF, I, L) 0 0 (fun r σ' => xi_V (xG L0 xs) 104 114 [some (Value.ref 0), some (Value.ref 15), some (Value.int v2), none, none] (r.toList ++ []) σ' 0 0 Q)) ∧ (¬ (I 5 0) ≤ v2 → xi_V (xG L0 xs) 41 0 [some (Value.ref 10), some (Value.int v2)] [] (xSH, xRF, I, L) 0 0 (fun r σ' => xi_V (xG L0 xs) 104 34 [some (Value.ref 0), some (Value.ref 15), some (Value.int v2), none, none] (r.toList ++ []) σ' 0 0 Q)))) :
    xi_V (xG L0 xs) 104 15 [some (Value.ref 0), some (Value.ref 15), some (Value.int v2), none, none] [] (xSH, xRF, I, L) 0 0 Q := xi_go 104 [(34, []), (114, [])] 400 (h)
theorem b_D_tellSpread_34 {L0 : Nat} {xs : Nat → Int32} {Q : xiQ} {I : Nat → Nat → Int32} {L : Nat → Nat → Int64} {v2 : Int32} {t0 : Int64}
    (h : (((lg_cmp t0 (0 : Int64)) ≤ (0 : Int32) → xi_V (xG L0 xs) 104 97 [some (Value.ref 0), some (Value.ref 15), some (Value.int v2), none, none] [] (xSH, xRF, I, L) 0 0 Q) ∧ (¬ (lg_cmp t0 (0 : Int64)) ≤ (0 : Int32) → xi_V (xG L0 xs) 105 0 [some (Value.ref 0), some (Value.int v2), none, none, none] [] (xSH, xRF, I, L) 0 0 (fun r σ' => xi_V (xG L0 xs) 104 44 [some (Value.ref 0), some (Value.ref 15), some (Value.int v2), none, none] (r.toList ++ []) σ' 0 0 Q)))) :
    xi_V (xG L0 xs) 104 34 [some (Value.ref 0), some (Value.ref 15), some (Value.int v2), none, none] [Value.long t0] (xSH, xRF, I, L) 0 0 Q := xi_go 104 [(44, []), (97, [])] 400 (h)
theorem b_D_tellSpread_44 {L0 : Nat} {xs : Nat → Int32} {Q : xiQ} {I : Nat → Nat → Int32} {L : Nat → Nat → Int64} {v2 : Int32}
    (h : vp_in v2 10 ∧ (xi_V (xG L0 xs) 41 0 [some (Value.ref 10), some (Value.int v2)] [] (xSH, xRF, I, L) 0 0 (fun r σ' => xi_V (xG L0 xs) 104 64 [some (Value.ref 0), some (Value.ref 15), some (Value.int v2), some (Value.long (Int32.toInt64 (I 6 v2.toNatClampNeg))), none] (r.toList ++ [Value.ref 15]) σ' 0 0 Q))) :
    xi_V (xG L0 xs) 104 44 [some (Value.ref 0), some (Value.ref 15), some (Value.int v2), none, none] [] (xSH, xRF, I, L) 0 0 Q := xi_go 104 [(64, [])] 400 (h)
theorem b_D_tellSpread_64 {L0 : Nat} {xs : Nat → Int32} {Q : xiQ} {I : Nat → Nat → Int32} {L : Nat → Nat → Int64} {v2 : Int32} {w3 : Int64} {t1 : Int64}
    (h : xi_V (xG L0 xs) 10 0 [some (Value.ref 15), some (Value.long t1), none, none, none, none, none, none, none, none, none, none, none, none, none, none] [] (xSH, xRF, I, L) 0 0 (fun r σ' => xi_V (xG L0 xs) 104 67 [some (Value.ref 0), some (Value.ref 15), some (Value.int v2), some (Value.long w3), none] (r.toList ++ []) σ' 0 0 Q)) :
    xi_V (xG L0 xs) 104 64 [some (Value.ref 0), some (Value.ref 15), some (Value.int v2), some (Value.long w3), none] [Value.long t1, Value.ref 15] (xSH, xRF, I, L) 0 0 Q := xi_go 104 [(67, [])] 400 (h)
theorem b_D_tellSpread_67 {L0 : Nat} {xs : Nat → Int32} {Q : xiQ} {I : Nat → Nat → Int32} {L : Nat → Nat → Int64} {v2 : Int32} {w3 : Int64}
    (h : xi_V (xG L0 xs) 11 0 [some (Value.ref 15), some (Value.ref 24), some (Value.long (w3 * w3)), none, none, none, none, none, none, none, none, none, none, none, none, none, none] [] (xSH, xRF, I, L) 0 0 (fun r σ' => xi_V (xG L0 xs) 104 81 [some (Value.ref 0), some (Value.ref 15), some (Value.int v2), some (Value.long w3), none] (r.toList ++ []) σ' 0 0 Q)) :
    xi_V (xG L0 xs) 104 67 [some (Value.ref 0), some (Value.ref 15), some (Value.int v2), some (Value.long w3), none] [] (xSH, xRF, I, L) 0 0 Q := xi_go 104 [(81, [])] 400 (h)
theorem b_D_tellSpread_81 {L0 : Nat} {xs : Nat → Int32} {Q : xiQ} {I : Nat → Nat → Int32} {L : Nat → Nat → Int64} {v2 : Int32} {w3 : Int64}
    (h : xi_V (xG L0 xs) 11 0 [some (Value.ref 15), some (Value.ref 22), some (Value.long ((2 : Int64) * w3)), none, none, none, none, none, none, none, none, none, none, none, none, none, none] [] (xSH, xRF, I, L) 0 0 (fun r σ' => xi_V (xG L0 xs) 104 97 [some (Value.ref 0), some (Value.ref 15), some (Value.int v2), none, none] (r.toList ++ []) σ' 0 0 Q)) :
    xi_V (xG L0 xs) 104 81 [some (Value.ref 0), some (Value.ref 15), some (Value.int v2), some (Value.long w3), none] [] (xSH, xRF, I, L) 0 0 Q := xi_go 104 [(97, [3])] 400 (h)
theorem b_D_tellSpread_97 {L0 : Nat} {xs : Nat → Int32} {Q : xiQ} {I : Nat → Nat → Int32} {L : Nat → Nat → Int64} {v2 : Int32}
    (h : xi_V (xG L0 xs) 104 15 [some (Value.ref 0), some (Value.ref 15), some (Value.int (v2 + (1 : Int32))), none, none] [] (xSH, xRF, I, L) 0 0 Q) :
    xi_V (xG L0 xs) 104 97 [some (Value.ref 0), some (Value.ref 15), some (Value.int v2), none, none] [] (xSH, xRF, I, L) 0 0 Q := xi_go 104 [(15, [])] 400 (h)
theorem b_D_tellSpread_114 {L0 : Nat} {xs : Nat → Int32} {Q : xiQ} {I : Nat → Nat → Int32} {L : Nat → Nat → Int64} {v2 : Int32}
    (h : xi_V (xG L0 xs) 106 0 [some (Value.ref 0), none, none, none] [] (xSH, xRF, I, L) 0 0 (fun r σ' => xi_V (xG L0 xs) 104 118 [some (Value.ref 0), some (Value.ref 15), some (Value.int v2), none, none] (r.toList ++ []) σ' 0 0 Q)) :
    xi_V (xG L0 xs) 104 114 [some (Value.ref 0), some (Value.ref 15), some (Value.int v2), none, none] [] (xSH, xRF, I, L) 0 0 Q := xi_go 104 [(118, [])] 400 (h)
theorem b_D_tellSpread_118 {L0 : Nat} {xs : Nat → Int32} {Q : xiQ} {I : Nat → Nat → Int32} {L : Nat → Nat → Int64} {v2 : Int32}
    (h : xi_V (xG L0 xs) 103 0 [some (Value.ref 0), none, none] [] (xSH, xRF, I, L) 0 0 (fun r σ' => xi_V (xG L0 xs) 104 130 [some (Value.ref 0), some (Value.ref 15), some (Value.int v2), none, none] (r.toList ++ [Value.ref 22, Value.ref 15]) σ' 0 0 Q)) :
    xi_V (xG L0 xs) 104 118 [some (Value.ref 0), some (Value.ref 15), some (Value.int v2), none, none] [] (xSH, xRF, I, L) 0 0 Q := xi_go 104 [(130, [])] 400 (h)
theorem b_D_tellSpread_130 {L0 : Nat} {xs : Nat → Int32} {Q : xiQ} {I : Nat → Nat → Int32} {L : Nat → Nat → Int64} {v2 : Int32} {s2 : Int32}
    (h : xi_V (xG L0 xs) 11 0 [some (Value.ref 15), some (Value.ref 22), some (Value.long (Int32.toInt64 (-s2))), none, none, none, none, none, none, none, none, none, none, none, none, none, none] [] (xSH, xRF, I, L) 0 0 (fun r σ' => xi_V (xG L0 xs) 104 135 [some (Value.ref 0), some (Value.ref 15), some (Value.int v2), none, none] (r.toList ++ []) σ' 0 0 Q)) :
    xi_V (xG L0 xs) 104 130 [some (Value.ref 0), some (Value.ref 15), some (Value.int v2), none, none] [Value.int s2, Value.ref 22, Value.ref 15] (xSH, xRF, I, L) 0 0 Q := xi_go 104 [(135, [])] 400 (h)
theorem b_D_tellSpread_135 {L0 : Nat} {xs : Nat → Int32} {Q : xiQ} {I : Nat → Nat → Int32} {L : Nat → Nat → Int64} {v2 : Int32}
    (h : xi_V (xG L0 xs) 34 0 [some (Value.ref 14)] [] (xSH, xRF, I, L) 0 0 (fun r σ' => xi_V (xG L0 xs) 104 142 [some (Value.ref 0), some (Value.ref 15), some (Value.int v2), none, none] (r.toList ++ []) σ' 0 0 Q)) :
    xi_V (xG L0 xs) 104 135 [some (Value.ref 0), some (Value.ref 15), some (Value.int v2), none, none] [] (xSH, xRF, I, L) 0 0 Q := xi_go 104 [(142, [])] 400 (h)
theorem b_D_tellSpread_142 {L0 : Nat} {xs : Nat → Int32} {Q : xiQ} {I : Nat → Nat → Int32} {L : Nat → Nat → Int64} {v2 : Int32}
    (h : xi_V (xG L0 xs) 18 0 [some (Value.ref 5)] [] (xSH, xRF, I, L) 0 0 (fun r σ' => xi_V (xG L0 xs) 104 150 [some (Value.ref 0), some (Value.ref 15), some (Value.int v2), none, none] (r.toList ++ [Value.ref 0]) σ' 0 0 Q)) :
    xi_V (xG L0 xs) 104 142 [some (Value.ref 0), some (Value.ref 15), some (Value.int v2), none, none] [] (xSH, xRF, I, L) 0 0 Q := xi_go 104 [(150, [])] 400 (h)
theorem b_D_tellSpread_150 {L0 : Nat} {xs : Nat → Int32} {Q : xiQ} {I : Nat → Nat → Int32} {L : Nat → Nat → Int64} {v2 : Int32} {s1 : Int32}
    (h : xi_V (xG L0 xs) 102 0 [some (Value.ref 0), some (Value.int (s1 - (1 : Int32))), none] [] (xSH, xRF, I, L) 0 0 (fun r σ' => xi_V (xG L0 xs) 104 155 [some (Value.ref 0), some (Value.ref 15), some (Value.int v2), none, none] (r.toList ++ []) σ' 0 0 Q)) :
    xi_V (xG L0 xs) 104 150 [some (Value.ref 0), some (Value.ref 15), some (Value.int v2), none, none] [Value.int s1, Value.ref 0] (xSH, xRF, I, L) 0 0 Q := xi_go 104 [(155, [])] 400 (h)
theorem b_D_tellSpread_155 {L0 : Nat} {xs : Nat → Int32} {Q : xiQ} {I : Nat → Nat → Int32} {L : Nat → Nat → Int64} {v2 : Int32}
    (h : Q none (xSH, xRF, I, L)) :
    xi_V (xG L0 xs) 104 155 [some (Value.ref 0), some (Value.ref 15), some (Value.int v2), none, none] [] (xSH, xRF, I, L) 0 0 Q := xi_go 104 [] 400 (h)
theorem b_D_tallyPairsBefore_0 {L0 : Nat} {xs : Nat → Int32} {Q : xiQ} {I : Nat → Nat → Int32} {L : Nat → Nat → Int64} {v1 : Int32}
    (h : xi_V (xG L0 xs) 68 0 [some (Value.ref 21)] [] (xSH, xRF, I, L) 0 0 (fun r σ' => xi_V (xG L0 xs) 105 7 [some (Value.ref 0), some (Value.int v1), none, none, none] (r.toList ++ []) σ' 0 0 Q)) :
    xi_V (xG L0 xs) 105 0 [some (Value.ref 0), some (Value.int v1), none, none, none] [] (xSH, xRF, I, L) 0 0 Q := xi_go 105 [(7, [])] 400 (h)
theorem b_D_tallyPairsBefore_7 {L0 : Nat} {xs : Nat → Int32} {Q : xiQ} {I : Nat → Nat → Int32} {L : Nat → Nat → Int64} {v1 : Int32}
    (h : xi_V (xG L0 xs) 105 9 [some (Value.ref 0), some (Value.int v1), some (Value.int (0 : Int32)), none, none] [] (xSH, xRF, I, L) 0 0 Q) :
    xi_V (xG L0 xs) 105 7 [some (Value.ref 0), some (Value.int v1), none, none, none] [] (xSH, xRF, I, L) 0 0 Q := xi_go 105 [(9, [])] 400 (h)
theorem b_D_tallyPairsBefore_9 {L0 : Nat} {xs : Nat → Int32} {Q : xiQ} {I : Nat → Nat → Int32} {L : Nat → Nat → Int64} {v1 : Int32} {v2 : Int32}
    (h : ((v1 ≤ v2 → Q none (xSH, xRF, I, L)) ∧ (¬ v1 ≤ v2 → xi_V (xG L0 xs) 41 0 [some (Value.ref 10), some (Value.int v2)] [] (xSH, xRF, I, L) 0 0 (fun r σ' => xi_V (xG L0 xs) 105 22 [some (Value.ref 0), some (Value.int v1), some (Value.int v2), none, none] (r.toList ++ []) σ' 0 0 Q)))) :
    xi_V (xG L0 xs) 105 9 [some (Value.ref 0), some (Value.int v1), some (Value.int v2), none, none] [] (xSH, xRF, I, L) 0 0 Q := xi_go 105 [(22, [])] 400 (h)
theorem b_D_tallyPairsBefore_22 {L0 : Nat} {xs : Nat → Int32} {Q : xiQ} {I : Nat → Nat → Int32} {L : Nat → Nat → Int64} {v1 : Int32} {v2 : Int32} {t0 : Int64}
    (h : (((lg_cmp t0 (0 : Int64)) ≤ (0 : Int32) → xi_V (xG L0 xs) 105 57 [some (Value.ref 0), some (Value.int v1), some (Value.int v2), some (Value.long t0), none] [] (xSH, xRF, I, L) 0 0 Q) ∧ (¬ (lg_cmp t0 (0 : Int64)) ≤ (0 : Int32) → vp_in v2 10 ∧ (xi_V (xG L0 xs) 42 0 [some (Value.ref 10), some (Value.int v1), some (Value.int v2)] [] (xSH, xRF, I, L) 0 0 (fun r σ' => xi_V (xG L0 xs) 105 52 [some (Value.ref 0), some (Value.int v1), some (Value.int v2), some (Value.long t0), none] (r.toList ++ [Value.long (Int32.toInt64 (I 6 v2.toNatClampNeg)), Value.ref 21]) σ' 0 0 Q))))) :
    xi_V (xG L0 xs) 105 22 [some (Value.ref 0), some (Value.int v1), some (Value.int v2), none, none] [Value.long t0] (xSH, xRF, I, L) 0 0 Q := xi_go 105 [(52, []), (57, [])] 400 (h)
theorem b_D_tallyPairsBefore_52 {L0 : Nat} {xs : Nat → Int32} {Q : xiQ} {I : Nat → Nat → Int32} {L : Nat → Nat → Int64} {v1 : Int32} {v2 : Int32} {w3 : Int64} {t1 : Int64} {t2 : Int64}
    (h : xi_V (xG L0 xs) 69 0 [some (Value.ref 21), some (Value.long (t1 * t2)), none, some (Value.long w3), none] [] (xSH, xRF, I, L) 0 0 (fun r σ' => xi_V (xG L0 xs) 105 57 [some (Value.ref 0), some (Value.int v1), some (Value.int v2), some (Value.long w3), none] (r.toList ++ []) σ' 0 0 Q)) :
    xi_V (xG L0 xs) 105 52 [some (Value.ref 0), some (Value.int v1), some (Value.int v2), some (Value.long w3), none] [Value.long t2, Value.long t1, Value.ref 21] (xSH, xRF, I, L) 0 0 Q := xi_go 105 [(57, [])] 400 (h)
theorem b_D_tallyPairsBefore_57 {L0 : Nat} {xs : Nat → Int32} {Q : xiQ} {I : Nat → Nat → Int32} {L : Nat → Nat → Int64} {v1 : Int32} {v2 : Int32} {w3 : Int64}
    (h : xi_V (xG L0 xs) 105 9 [some (Value.ref 0), some (Value.int v1), some (Value.int (v2 + (1 : Int32))), none, none] [] (xSH, xRF, I, L) 0 0 Q) :
    xi_V (xG L0 xs) 105 57 [some (Value.ref 0), some (Value.int v1), some (Value.int v2), some (Value.long w3), none] [] (xSH, xRF, I, L) 0 0 Q := xi_go 105 [(9, [3])] 400 (h)
theorem b_D_tallyMean_0 {L0 : Nat} {xs : Nat → Int32} {Q : xiQ} {I : Nat → Nat → Int32} {L : Nat → Nat → Int64}
    (h : xi_V (xG L0 xs) 68 0 [some (Value.ref 21)] [] (xSH, xRF, I, L) 0 0 (fun r σ' => xi_V (xG L0 xs) 106 7 [some (Value.ref 0), none, none, none] (r.toList ++ []) σ' 0 0 Q)) :
    xi_V (xG L0 xs) 106 0 [some (Value.ref 0), none, none, none] [] (xSH, xRF, I, L) 0 0 Q := xi_go 106 [(7, [])] 400 (h)
theorem b_D_tallyMean_7 {L0 : Nat} {xs : Nat → Int32} {Q : xiQ} {I : Nat → Nat → Int32} {L : Nat → Nat → Int64}
    (h : xi_V (xG L0 xs) 106 9 [some (Value.ref 0), some (Value.int (0 : Int32)), none, none] [] (xSH, xRF, I, L) 0 0 Q) :
    xi_V (xG L0 xs) 106 7 [some (Value.ref 0), none, none, none] [] (xSH, xRF, I, L) 0 0 Q := xi_go 106 [(9, [])] 400 (h)
theorem b_D_tallyMean_9 {L0 : Nat} {xs : Nat → Int32} {Q : xiQ} {I : Nat → Nat → Int32} {L : Nat → Nat → Int64} {v1 : Int32}
    (h : (((I 5 0) ≤ v1 → Q none (xSH, xRF, I, L)) ∧ (¬ (I 5 0) ≤ v1 → xi_V (xG L0 xs) 41 0 [some (Value.ref 10), some (Value.int v1)] [] (xSH, xRF, I, L) 0 0 (fun r σ' => xi_V (xG L0 xs) 106 28 [some (Value.ref 0), some (Value.int v1), none, none] (r.toList ++ []) σ' 0 0 Q)))) :
    xi_V (xG L0 xs) 106 9 [some (Value.ref 0), some (Value.int v1), none, none] [] (xSH, xRF, I, L) 0 0 Q := xi_go 106 [(28, [])] 400 (h)
theorem b_D_tallyMean_28 {L0 : Nat} {xs : Nat → Int32} {Q : xiQ} {I : Nat → Nat → Int32} {L : Nat → Nat → Int64} {v1 : Int32} {t0 : Int64}
    (h : (((lg_cmp t0 (0 : Int64)) ≤ (0 : Int32) → xi_V (xG L0 xs) 106 55 [some (Value.ref 0), some (Value.int v1), some (Value.long t0), none] [] (xSH, xRF, I, L) 0 0 Q) ∧ (¬ (lg_cmp t0 (0 : Int64)) ≤ (0 : Int32) → vp_in v1 10 ∧ (xi_V (xG L0 xs) 69 0 [some (Value.ref 21), some (Value.long ((Int32.toInt64 (I 6 v1.toNatClampNeg)) * t0)), none, some (Value.long t0), none] [] (xSH, xRF, I, L) 0 0 (fun r σ' => xi_V (xG L0 xs) 106 55 [some (Value.ref 0), some (Value.int v1), some (Value.long t0), none] (r.toList ++ []) σ' 0 0 Q))))) :
    xi_V (xG L0 xs) 106 28 [some (Value.ref 0), some (Value.int v1), none, none] [Value.long t0] (xSH, xRF, I, L) 0 0 Q := xi_go 106 [(55, [])] 400 (h)
theorem b_D_tallyMean_55 {L0 : Nat} {xs : Nat → Int32} {Q : xiQ} {I : Nat → Nat → Int32} {L : Nat → Nat → Int64} {v1 : Int32} {w2 : Int64}
    (h : xi_V (xG L0 xs) 106 9 [some (Value.ref 0), some (Value.int (v1 + (1 : Int32))), none, none] [] (xSH, xRF, I, L) 0 0 Q) :
    xi_V (xG L0 xs) 106 55 [some (Value.ref 0), some (Value.int v1), some (Value.long w2), none] [] (xSH, xRF, I, L) 0 0 Q := xi_go 106 [(9, [2])] 400 (h)
