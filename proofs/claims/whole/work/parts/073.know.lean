/-! know: all that is made once after a change -/
noncomputable def al (D : xD) : Int := if qK D = 2 then (qT D : Int) else sm (wt D) (2 ^ qN D)
noncomputable def c1 (D : xD) (i : Nat) : Int := sm (fun s => (bt s i : Int) * wt D s) (2 ^ qN D)
noncomputable def ov (D : xD) (i : Nat) : Int := c1 D i / ((Int.gcd (c1 D i) (al D) : Nat) : Int)
noncomputable def un (D : xD) (i : Nat) : Int := al D / ((Int.gcd (c1 D i) (al D) : Nat) : Int)
noncomputable def cmn (D : xD) : Nat → Int
  | 0 => 1
  | i + 1 => if ov D i = 0 then cmn D i else cmn D i * (ov D i / ((Int.gcd (cmn D i) (ov D i) : Nat) : Int))
noncomputable def pc (D : xD) (i : Nat) : Int := if ov D i = 0 then 0 else cmn D (qN D) / ov D i * un D i * qW D i
/-- what holds the numbers in their room: A of the weights, P of all that is made of them -/
def okB (D : xD) (A P : Int) : Prop := 1 ≤ A ∧ 1 ≤ P ∧ 4 * (A * (1000 * P)) * (A * (1000 * P)) < nB ^ 43 ∧ (∀ s, 0 ≤ wt D s) ∧ sm (wt D) (2 ^ qN D) ≤ A ∧ (0 < al D ∧ al D ≤ A) ∧ (∀ i, i < qN D → 0 ≤ ov D i ∧ ov D i ≤ P ∧ 0 < un D i ∧ un D i ≤ P) ∧ (∀ m, m ≤ qN D → 1 ≤ cmn D m ∧ cmn D m ≤ P) ∧ (∀ i, i < qN D → ov D i ≠ 0 → 0 ≤ cmn D (qN D) / ov D i ∧ cmn D (qN D) / ov D i ≤ P ∧ 0 ≤ cmn D (qN D) / ov D i * un D i ∧ cmn D (qN D) / ov D i * un D i ≤ P)
/-- what the model knows -/
def mKn (f : Nat → Int64) (D : xD) : Prop := Nm f 11 (al D) ∧ Nm f 12 (cmn D (qN D)) ∧ (∀ i, i < qN D → Nm f (13 + i) (ov D i) ∧ Nm f (23 + i) (un D i) ∧ Nm f (33 + i) (pc D i)) ∧ ∀ s, s < 2 ^ qN D → Nm f (43 + s) (wt D s)
theorem okB_big {D : xD} {A P : Int} (h : okB D A P) : A < nB ^ 43 ∧ P < nB ^ 43 ∧ P * P < nB ^ 43 ∧ 100 * P < nB ^ 43 ∧ 1000 * P < nB ^ 43 ∧ A * (1000 * P) < nB ^ 43 ∧ A * (1000 * P) * (1000 * P) < nB ^ 43 := by
  obtain ⟨hA, hP, hb, -⟩ := h
  have h1 : 1 * (1000 * P) ≤ A * (1000 * P) := Int.mul_le_mul_of_nonneg_right hA (by omega)
  have h2 : A * 1 ≤ A * (1000 * P) := Int.mul_le_mul_of_nonneg_left (by omega) (by omega)
  have h3 : (1000 * P) * (A * (1000 * P)) ≤ (A * (1000 * P)) * (A * (1000 * P)) := Int.mul_le_mul_of_nonneg_right (by omega) (by omega)
  have h4 : 1 * (A * (1000 * P)) ≤ (1000 * P) * (A * (1000 * P)) := Int.mul_le_mul_of_nonneg_right (by omega) (by omega)
  have h5 : P * (1 * (1000 * P)) ≤ P * (A * (1000 * P)) := Int.mul_le_mul_of_nonneg_left h1 (by omega)
  have h6 : P * (A * (1000 * P)) ≤ (1000 * P) * (A * (1000 * P)) := Int.mul_le_mul_of_nonneg_right (by omega) (by omega)
  have h7 : P * P ≤ P * (1 * (1000 * P)) := Int.mul_le_mul_of_nonneg_left (by omega) (by omega)
  have h8 : (1000 * P) * (A * (1000 * P)) = A * (1000 * P) * (1000 * P) := Int.mul_comm _ _
  rw [Int.mul_assoc] at hb
  generalize nB ^ 43 = B at *
  generalize A * (1000 * P) = X at *
  generalize X * X = Y at *
  generalize X * (1000 * P) = Z at *
  generalize P * (1 * (1000 * P)) = W at *
  generalize P * P = V at *
  refine ⟨?_, ?_, ?_, ?_, ?_, ?_, ?_⟩ <;> omega
section KN
variable {L0 : Nat} {xs : Nat → Int32} {Q : xiQ} {I : Nat → Nat → Int32} {L : Nat → Nat → Int64} {f p q r : Nat → Int64}
variable {D : xD}
theorem mC_u {x : Int32} {j : Nat} (hj : j ≠ 5) (h : mC I D) : mC (xi_u I 37 j x) D := by
  unfold mC at *
  simp only [xi_u, if_pos, if_neg (show ¬ (5 : Nat) = j from fun z => hj z.symm), show ¬ (42 : Nat) = 37 by decide, show ¬ (43 : Nat) = 37 by decide, show ¬ (44 : Nat) = 37 by decide, show ¬ (45 : Nat) = 37 by decide, if_false, if_true]
  exact h
theorem mD_u {x : Int32} {j : Nat} (hj : j ≠ 11 ∧ j ≠ 12) (h : mD I D) : mD (xi_u I 37 j x) D := by
  unfold mD at *
  simp only [xi_u, if_pos, if_neg (show ¬ (11 : Nat) = j from fun z => hj.1 z.symm), if_neg (show ¬ (12 : Nat) = j from fun z => hj.2 z.symm), show ¬ (46 : Nat) = 37 by decide, if_false, if_true]
  exact h
/-- the rows of the sets are made 0 -/
theorem c_know22 (hC : okC D) (hI : mC I D) (hQ : ∀ g, mK (fun c => 43 ≤ c) f g → (∀ s, s < 2 ^ qN D → Nm g (43 + s) 0) → xi_V (xG L0 xs) 141 22 [some (Value.ref 37), some (Value.int (nI (2 ^ qN D))), none, none, none] [] (xSH, xRF, I, mL L g p q r) 0 0 Q) :
    ∀ (n s : Nat) (g : Nat → Int64), s + n = 2 ^ qN D → mK (fun c => 43 ≤ c) f g → (∀ k, k < s → Nm g (43 + k) 0) → xi_V (xG L0 xs) 141 22 [some (Value.ref 37), some (Value.int (nI s)), none, none, none] [] (xSH, xRF, I, mL L g p q r) 0 0 Q := by
  have h10 := hC.1
  have hp := p2_lt h10.2
  intro n
  induction n with
  | zero =>
    intro s g hn hk hz
    rw [show s = 2 ^ qN D by omega] at hz ⊢
    exact hQ g hk hz
  | succ n ih =>
    intro s g hn hk hz
    refine b_M_know_22 ?_
    rw [hI.1, sh_1 (by omega)]
    refine pk_le (2 ^ qN D) s (fun c => absurd c (by omega)) (fun c => ?_)
    rw [show (43 : Int32) = nI 43 from rfl, nI_add]
    refine c_put (a := 43 + s) (by omega) (w := 0) (by decide) (fun g1 m1 n1 => b_M_know_41 ?_)
    rw [nI_1]
    rw [m_z0] at n1
    refine ih (s + 1) g1 (by omega) (mK_tr hk (mK_F m1 (show 43 ≤ 43 + s by omega))) (fun k hk2 => ?_)
    by_cases e : k = s
    · subst e; exact n1
    · exact mF_Nm m1 (by omega) (hz k (by omega))
/-- the weights, not by STEPS -/
theorem c_know130 {A P : Int} (hD0 : okD D) (hB : okB D A P) (hI : mC I D) (hD : mD I D) (hK : qK D ≠ 2)
    (hQ : ∀ g p' q' r', mK (fun c => c = 5 ∨ c = 6 ∨ c = 11 ∨ 43 ≤ c) f g → Nm g 11 (al D) → (∀ s, s < 2 ^ qN D → Nm g (43 + s) (wt D s)) → xi_V (xG L0 xs) 109 0 [some (Value.ref 37), some (Value.int ((12 : Int32))), some (Value.long ((1 : Int64))), none, none] [] (xSH, xRF, I, mL L g p' q' r') 0 0 (fun o σ' => xi_V (xG L0 xs) 141 177 [some (Value.ref 37), some (Value.int (nI (2 ^ qN D))), none, none, none] (o.toList ++ []) σ' 0 0 Q)) :
    ∀ (n s : Nat) (g p' q' r' : Nat → Int64), s + n = 2 ^ qN D → mK (fun c => c = 5 ∨ c = 6 ∨ c = 11 ∨ 43 ≤ c) f g → Nm g 11 (sm (wt D) s) → (∀ k, k < s → Nm g (43 + k) (wt D k)) → (∀ k, k < 2 ^ qN D → ∃ v, Nm g (43 + k) v) → xi_V (xG L0 xs) 141 130 [some (Value.ref 37), some (Value.int (nI s)), none, none, none] [] (xSH, xRF, I, mL L g p' q' r') 0 0 Q := by
  have h10 := hD0.1.1
  have hp := p2_lt h10.2
  have hb := okB_big hB
  intro n
  induction n with
  | zero =>
    intro s g p' q' r' hn hk h11 hz _
    refine b_M_know_130 ?_
    rw [hI.1, sh_1 (by omega)]
    refine pk_le (2 ^ qN D) s (fun c => ?_) (fun c => absurd c (by omega))
    rw [show s = 2 ^ qN D by omega] at hz h11 ⊢
    exact hQ g p' q' r' hk (by unfold al; rw [if_neg hK]; exact h11) hz
  | succ n ih =>
    intro s g p' q' r' hn hk h11 hz hv
    refine b_M_know_130 ?_
    rw [hI.1, sh_1 (by omega)]
    refine pk_le (2 ^ qN D) s (fun c => absurd c (by omega)) (fun c => ?_)
    refine c_mWeigh hD0 hI hD hK (by omega) (fun g1 p1 q1 r1 k1 n1 => b_M_know_145 ?_)
    rw [show (43 : Int32) = nI 43 from rfl, nI_add]
    refine c_copy (a := 43 + s) (b := 6) (by omega) (by decide) (by omega) n1 (fun g2 m2 n2 => b_M_know_155 ?_)
    have hsum : sm (wt D) (s + 1) ≤ A := by
      have := sm_mono (f := wt D) (m := s + 1) n (fun k _ => hB.2.2.2.1 k)
      rw [show s + 1 + n = 2 ^ qN D by omega] at this
      exact Int.le_trans this hB.2.2.2.2.1
    have hnn : 0 ≤ sm (wt D) (s + 1) := sm_nn (fun k _ => hB.2.2.2.1 k)
    have n11 := mF_Nm m2 (b := 11) (by omega) (k1 11 _ (by omega) h11)
    refine c_more (a := 11) (b := 6) (by decide) (by decide) (by decide) (w := 1) n11 (mF_Nm m2 (by omega) n1) (by decide) ?_ ?_ (fun g3 m3 n3 => b_M_know_164 ?_)
    · rw [m_1L, Int.mul_one, ← sm_s]; generalize nB ^ 43 = B at *; omega
    · rw [m_1L, Int.mul_one, ← sm_s]; generalize nB ^ 43 = B at *; omega
    · rw [m_1L, Int.mul_one, ← sm_s] at n3
      rw [nI_1]
      refine ih (s + 1) g3 p1 q1 r1 (by omega) (mK_tr hk (mK_tr (mK_w k1 (fun b hb => by omega)) (mK_tr (mK_F m2 (by omega)) (mK_F m3 (by omega))))) n3 (fun k hk2 => ?_) (fun k hk2 => ?_)
      · by_cases e : k = s
        · subst e; exact mF_Nm m3 (by omega) n2
        · exact mF_Nm m3 (by omega) (mF_Nm m2 (by omega) (k1 _ _ (by omega) (hz k (by omega))))
      · by_cases e : k = s
        · subst e; exact ⟨_, mF_Nm m3 (by omega) n2⟩
        · obtain ⟨v, hv2⟩ := hv k hk2
          exact ⟨v, mF_Nm m3 (by omega) (mF_Nm m2 (by omega) (k1 _ _ (by omega) hv2))⟩
end KN
