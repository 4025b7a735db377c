theorem t_5a : xi_tgt 10 16 = 26 := rfl
theorem t_5b : xi_tgt 64 (-62) = 2 := rfl
theorem t_5 {L0 : Nat} {xs : Nat → Int32} {Q : xiQ} {σ : xiS} {X : xiX} {ls : List (Option Value)} {v : Int32} {st : List Value} :
  xi_step (xG L0 xs) X 3 10 ls (.int v :: st) σ 0 0 Q = ((0 ≤ v → X 3 26 ls st σ 0 0 Q) ∧ (¬ 0 ≤ v → X 3 13 ls st σ 0 0 Q)) := rfl
theorem t_a {L0 : Nat} {xs : Nat → Int32} {Q : xiQ} {I : Nat → Nat → Int32} {L : Nat → Nat → Int64} {x y : Int64}
  (h : ¬ y = 0 ∧ (((0 : Int32) ≤ lg_cmp (x ^^^ y) 0 → xi_V (xG L0 xs) 3 26 [some (.long x), none, some (.long y), none, some (.long (x - x / y * y)), none] [] (xSH, xRF, I, L) 0 0 Q) ∧ (¬ (0 : Int32) ≤ lg_cmp (x ^^^ y) 0 →
     (lg_cmp (x - x / y * y) 0 = 0 → xi_V (xG L0 xs) 3 26 [some (.long x), none, some (.long y), none, some (.long (x - x / y * y)), none] [] (xSH, xRF, I, L) 0 0 Q) ∧
     (¬ lg_cmp (x - x / y * y) 0 = 0 → xi_V (xG L0 xs) 3 26 [some (.long x), none, some (.long y), none, some (.long (x - x / y * y + y)), none] [] (xSH, xRF, I, L) 0 0 Q)))) :
  xi_V (xG L0 xs) 3 0 [some (.long x), none, some (.long y), none, none, none] [] (xSH, xRF, I, L) 0 0 Q :=
  xi_go 3 [(26, [])] 60 h
theorem t_b {L0 : Nat} {xs : Nat → Int32} {Q : xiQ} {I : Nat → Nat → Int32} {L : Nat → Nat → Int64} {a k : Int32}
  (h : ((43 : Int32) ≤ k → Q none (xSH, xRF, I, L)) ∧ (¬ (43 : Int32) ≤ k → vp_in (44 * a + k) 46948 ∧ xi_V (xG L0 xs) 3 0 [some (.long (L 38 (44 * a + k).toNatClampNeg)), none, some (.long 1000000000), none, none, none] [] (xSH, xRF, I, L) 0 0 (fun r σ' => xi_V (xG L0 xs) 108 37 [some (.ref 37), some (.int a), some (.int k), some (.long (L 38 (44 * a + k).toNatClampNeg)), none] (r.toList ++ [.int (44 * a + k), .ref 38]) σ' 0 0 Q))) :
  xi_V (xG L0 xs) 108 2 [some (.ref 37), some (.int a), some (.int k), none, none] [] (xSH, xRF, I, L) 0 0 Q :=
  xi_go 108 [(37, []), (59, []), (2, [])] 60 h
