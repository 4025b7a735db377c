/-! times: the outer loop, and the whole -/
theorem m_row {pi Pi Y S : Int} : S * Y + pi * (Pi * Y) = (S + pi * Pi) * Y := by rw [Int.add_mul, Int.mul_assoc]
section CM6
variable {L0 : Nat} {xs : Nat → Int32} {Q : xiQ} {I : Nat → Nat → Int32} {L : Nat → Nat → Int64} {f p q r : Nat → Int64}
theorem c_times_out {v1 v2 v3 v4 : Int32} {i0 j0 : Nat} (hi0 : i0 ≤ 44) (hj0 : j0 ≤ 44) (hp : dR p) (hq : dR q) (hj0q : ∀ k, j0 ≤ k → k < 44 → (q k).toInt = 0) (hfit : vS p 44 * vS q 44 < nB ^ 43)
    (hQ : ∀ r', dR r' → vS r' 44 = vS p i0 * vS q 44 → xi_V (xG L0 xs) 118 190 [some (Value.ref 37), some (Value.int v1), some (Value.int v2), some (Value.int v3), some (Value.int v4), some (Value.int (nI i0)), some (Value.int (nI j0)), some (Value.int (nI 0)), none, none, none, none, none] [] (xSH, xRF, I, mL L f p q r') 0 0 Q) :
    ∀ (n i : Nat) (r' : Nat → Int64), i + n = i0 → dR r' → vS r' 44 = vS p i * vS q 44 →
      xi_V (xG L0 xs) 118 83 [some (Value.ref 37), some (Value.int v1), some (Value.int v2), some (Value.int v3), some (Value.int v4), some (Value.int (nI i0)), some (Value.int (nI j0)), some (Value.int (nI i)), none, none, none, none, none] [] (xSH, xRF, I, mL L f p q r') 0 0 Q
  | 0, i, r', hn, hr, hs => by
    have e : i = i0 := by clear hs hfit hQ; omega
    subst e
    refine b_M_times_83 ⟨fun _ => hQ r' hr hs, fun c => absurd (nI_le (Nat.le_refl i) ?_) c⟩
    clear hs hfit hQ
    omega
  | n + 1, i, r', hn, hr, hs => by
    have x1 : i < i0 := by clear hs hfit hQ; omega
    have x2 : i + 1 + n = i0 := by clear hs hfit hQ; omega
    have x3 : i + 1 ≤ 44 := by clear hs hfit hQ; omega
    have x4 : i + 0 + (44 - i) = 44 := by clear hs hfit hQ; omega
    have x5 : i0 < 2 ^ 31 := by clear hs hfit hQ; omega
    have x6 : i ≤ 44 := by clear hs hfit hQ; omega
    have hY := vS_nn hq (Nat.le_refl 44)
    have hX := vS_le hp x3
    have hX0 := vS_nn hp x6
    have hle : vS p (i + 1) * vS q 44 ≤ vS p 44 * vS q 44 := Int.mul_le_mul_of_nonneg_right hX hY
    have e2 : vS p i * vS q 44 + (p i).toInt * (nB ^ i * vS q 44) = vS p (i + 1) * vS q 44 := by rw [vS_s]; exact m_row
    refine b_M_times_83 ⟨fun c => absurd c (nI_ge x1 x5), fun _ => ?_⟩
    refine c_times_in (V := vS p i * vS q 44) x1 hi0 hj0 hp hq hj0q (by rw [e2]; exact Int.lt_of_le_of_lt hle hfit) (Int.mul_nonneg hX0 hY) (fun r2 h1 h2 => ?_) (44 - i) 0 r' 0 x4 hr (by decide) (by decide) ?_
    · exact c_times_out hi0 hj0 hp hq hj0q hfit hQ n (i + 1) r2 x2 h1 (by rw [h2, e2])
    · rw [m_z0, Int.zero_mul, Int.add_zero, hs, show vS q 0 = 0 from rfl, Int.mul_zero, Int.mul_zero, Int.add_zero]
theorem c_times_zero {v1 v2 v3 v4 : Int32} (hQ : ∀ r', (∀ k, k < 44 → r' k = 0) → xi_V (xG L0 xs) 117 0 [some (Value.ref 47), none] [] (xSH, xRF, I, mL L f p q r') 0 0 (fun o σ' => xi_V (xG L0 xs) 118 69 [some (Value.ref 37), some (Value.int v1), some (Value.int v2), some (Value.int v3), some (Value.int v4), some (Value.int (nI 44)), none, none, none, none, none, none, none] (o.toList ++ []) σ' 0 0 Q)) :
    ∀ (n k : Nat) (r' : Nat → Int64), k + n = 44 → (∀ i, i < k → r' i = 0) → xi_V (xG L0 xs) 118 41 [some (Value.ref 37), some (Value.int v1), some (Value.int v2), some (Value.int v3), some (Value.int v4), some (Value.int (nI k)), none, none, none, none, none, none, none] [] (xSH, xRF, I, mL L f p q r') 0 0 Q
  | 0, k, r', hk, hi => by
    have : k = 44 := by omega
    subst this
    exact b_M_times_41 ⟨fun _ => hQ r' hi, fun c => absurd (by rw [m_44]; exact nI_le (by omega) (by omega)) c⟩
  | n + 1, k, r', hk, hi => by
    have hk2 : k < 44 := by omega
    refine b_M_times_41 ⟨fun c => absurd c (by rw [m_44]; exact nI_ge hk2 (by omega)), fun _ => ?_⟩
    rw [m_k hk2, mL_u49, nI_1]
    refine ⟨m_v hk2, c_times_zero hQ n (k + 1) _ (by omega) (fun i hi2 => ?_)⟩
    by_cases e : i = k
    · subst e; exact m_us
    · rw [m_un e]; exact hi i (by omega)
theorem c_times_back {t : Nat} (ht : t < 1067) {v2 v3 v4 v5 v6 : Int32} (hQ : ∀ g, filI f g t 44 r → (v4 = 0 → Q none (xSH, xRF, I, mL L g p q r)) ∧ (¬ v4 = 0 → xi_V (xG L0 xs) 114 0 [some (Value.ref 37), some (Value.int (nI t)), none] [] (xSH, xRF, I, mL L g p q r) 0 0 (fun o σ' => xi_V (xG L0 xs) 118 232 [some (Value.ref 37), some (Value.int (nI t)), some (Value.int v2), some (Value.int v3), some (Value.int v4), some (Value.int v5), some (Value.int v6), some (Value.int (nI 44)), none, none, none, none, none] (o.toList ++ []) σ' 0 0 Q))) :
    ∀ (n k : Nat) (g : Nat → Int64), k + n = 44 → filI f g t k r → xi_V (xG L0 xs) 118 190 [some (Value.ref 37), some (Value.int (nI t)), some (Value.int v2), some (Value.int v3), some (Value.int v4), some (Value.int v5), some (Value.int v6), some (Value.int (nI k)), none, none, none, none, none] [] (xSH, xRF, I, mL L g p q r) 0 0 Q
  | 0, k, g, hk, hi => by
    have : k = 44 := by omega
    subst this
    exact b_M_times_190 ⟨fun _ => ⟨fun c => b_M_times_232 ((hQ g hi).1 c), fun c => (hQ g hi).2 c⟩, fun c => absurd (by rw [m_44]; exact nI_le (by omega) (by omega)) c⟩
  | n + 1, k, g, hk, hi => by
    have hk2 : k < 44 := by omega
    refine b_M_times_190 ⟨fun c => absurd c (by rw [m_44]; exact nI_ge hk2 (by omega)), fun _ => ?_⟩
    rw [m_ix, m_cl ht hk2, m_k hk2, mL_u38, nI_1, mL_49]
    exact ⟨m_v hk2, m_in ht hk2, c_times_back ht hQ n (k + 1) _ (by omega) (filI_s hi hk2)⟩
theorem Np_dR {p : Nat → Int64} {v : Nat} (h : Np p v) : dR p ∧ vS p 44 = (v : Int) := ⟨h.1, h.2⟩
/-- a bare row written to a row -/
theorem Nm_dR {f g r : Nat → Int64} {a : Nat} {v : Int} (h : filI f g a 44 r) (hr : dR r) (hv : vS r 44 = v) (h1 : 0 ≤ v) (h2 : v < nB ^ 43) : Nm g a v := by
  refine Nm_of (fun k hk => ?_) ?_ ?_ h2
  · rw [filI_Z h (by omega)]; exact hr k (by omega)
  · rw [nS_cong (fun k hk => filI_Z h hk)]; exact hv
  · have := nB_pow 43
    generalize nB ^ 43 = P at *
    omega
theorem m_sgn {x y : Int} (h : (x < 0) = (y < 0)) : ((x.natAbs : Int) * (y.natAbs : Int)) = x * y := by
  by_cases c : x < 0
  · have c2 : y < 0 := by rw [← h]; exact c
    rw [show (x.natAbs : Int) = -x by omega, show (y.natAbs : Int) = -y by omega, Int.neg_mul_neg]
  · have c2 : ¬ y < 0 := by rw [← h]; exact c
    rw [show (x.natAbs : Int) = x by omega, show (y.natAbs : Int) = y by omega]
theorem m_sgn2 {x y : Int} (h : ¬ ((x < 0) = (y < 0))) : -((x.natAbs : Int) * (y.natAbs : Int)) = x * y := by
  by_cases c : x < 0
  · have c2 : ¬ y < 0 := fun z => h (by simp [c, z])
    rw [show (x.natAbs : Int) = -x by omega, show (y.natAbs : Int) = y by omega, Int.neg_mul, Int.neg_neg]
  · have c2 : y < 0 := by
      by_cases z : y < 0
      · exact z
      · exact absurd (by simp [c, z]) h
    rw [show (x.natAbs : Int) = x by omega, show (y.natAbs : Int) = -y by omega, Int.mul_neg, Int.neg_neg]
/-- times(t, a, b) -/
theorem c_times {t a b : Nat} (ht : t < 1067) (ha : a < 1067) (hb : b < 1067) {x y : Int} (hx : Nm f a x) (hy : Nm f b y) (h1 : -(nB ^ 43) < x) (h2 : -(nB ^ 43) < y) (hfit : (x.natAbs : Int) * (y.natAbs : Int) < nB ^ 43)
    (hQ : ∀ g p' q' r', mF f g t → Nm g t (x * y) → Q none (xSH, xRF, I, mL L g p' q' r')) :
    xi_V (xG L0 xs) 118 0 [some (Value.ref 37), some (Value.int (nI t)), some (Value.int (nI a)), some (Value.int (nI b)), none, none, none, none, none, none, none, none, none] [] (xSH, xRF, I, mL L f p q r) 0 0 Q := by
  have body : ∀ v4 : Int32, (v4 = 0 ↔ ((x < 0) = (y < 0))) → xi_V (xG L0 xs) 118 18 [some (Value.ref 37), some (Value.int (nI t)), some (Value.int (nI a)), some (Value.int (nI b)), none, none, none, none, none, none, none, none, none] [Value.int v4] (xSH, xRF, I, mL L f p q r) 0 0 Q := by
    intro v4 hv4
    refine b_M_times_18 (c_bare47 ha hx h1 (fun p' hp => ?_))
    refine b_M_times_29 (c_bare48 hb hy h2 (fun q' hq => ?_))
    refine b_M_times_38 (c_times_zero (fun r' hr' => ?_) 44 0 _ rfl (fun i hi => absurd hi (Nat.not_lt_zero i)))
    refine c_length47 (fun i0 l1 l2 l3 => b_M_times_69 (c_length48 (fun j0 k1 k2 k3 => b_M_times_78 ?_)))
    obtain ⟨dp, ep⟩ := Np_dR hp
    obtain ⟨dq, eq⟩ := Np_dR hq
    have hr0 : dR r' := fun k hk => by rw [hr' k hk, m_z0]; decide
    have hrv : vS r' 44 = vS p' 0 * vS q' 44 := by
      rw [show vS p' 0 = 0 from rfl, Int.zero_mul]
      unfold vS
      rw [nS_cong (w := fun _ => 0) (fun k hk => by rw [hr' k hk, m_z0])]
      exact nS_zero 44
    have hpc : vS p' 44 = vS p' i0 := vS_cut l1 (fun k a1 a2 => by rw [l2 k a1 a2, m_z0])
    refine c_times_out l1 k1 dp dq (fun k a1 a2 => by rw [k2 k a1 a2, m_z0]) (by rw [ep, eq]; exact hfit) (fun r2 d2 e2 => ?_) i0 0 r' (Nat.zero_add i0) hr0 hrv
    rw [← hpc, ep, eq] at e2
    have hnn : (0 : Int) ≤ (x.natAbs : Int) * (y.natAbs : Int) := Int.mul_nonneg (Int.natCast_nonneg _) (Int.natCast_nonneg _)
    refine c_times_back ht (fun g hg => ⟨fun c => ?_, fun c => ?_⟩) 44 0 f rfl filI_0
    · have := Nm_dR hg d2 e2 hnn hfit
      rw [m_sgn (hv4.mp c)] at this
      exact hQ g _ _ _ hg.1 this
    · have h3 := Nm_dR hg d2 e2 hnn hfit
      refine c_turn ht h3 (by have := nB_pow 43; generalize nB ^ 43 = P at *; omega) (fun g2 m2 n2 => b_M_times_232 ?_)
      rw [m_sgn2 (fun z => c (hv4.mpr z))] at n2
      exact hQ g2 _ _ _ (mF_tr hg.1 m2) n2
  refine b_M_times_0 (c_isBelow ha hx (b_M_times_5 (c_isBelow hb hy (b_M_times_10 ⟨fun c => body 0 ?_, fun c => body 1 ?_⟩))))
  · refine ⟨fun _ => ?_, fun _ => rfl⟩
    by_cases c1 : x < 0 <;> by_cases c2 : y < 0 <;> simp [c1, c2] at c ⊢
  · refine ⟨fun z => absurd z (by decide), fun z => ?_⟩
    by_cases c1 : x < 0 <;> by_cases c2 : y < 0 <;> simp [c1, c2] at c z
end CM6
