/-! the model's numbers: a row of 44 parts stands for a whole number -/
def mZ (f : Nat → Int64) (a k : Nat) : Int := (f (44 * a + k)).toInt
def Nm (f : Nat → Int64) (a : Nat) (v : Int) : Prop := (∀ k, k < 43 → 0 ≤ mZ f a k ∧ mZ f a k < 1000000000) ∧ mZ f a 43 = (if v < 0 then -1 else 0) ∧ nS (mZ f a) 44 = v
/-- nothing but row a is another one -/
def mF (f g : Nat → Int64) (a : Nat) : Prop := ∀ j, (j < 44 * a ∨ 44 * a + 44 ≤ j) → g j = f j
theorem mF_rf {f : Nat → Int64} {a : Nat} : mF f f a := fun _ _ => rfl
theorem mF_tr {f g h : Nat → Int64} {a : Nat} (h1 : mF f g a) (h2 : mF g h a) : mF f h a := fun j hj => (h2 j hj).trans (h1 j hj)
theorem mF_u {f : Nat → Int64} {a k : Nat} {x : Int64} (hk : k < 44) : mF f (m_u f (44 * a + k) x) a := fun j hj => m_un (by omega)
theorem mF_Z {f g : Nat → Int64} {a b k : Nat} (h : mF f g a) (hab : b ≠ a) (hk : k < 44) : mZ g b k = mZ f b k := by
  unfold mZ
  rw [h _ (by omega)]
theorem mF_Nm {f g : Nat → Int64} {a b : Nat} {v : Int} (h : mF f g a) (hab : b ≠ a) (hN : Nm f b v) : Nm g b v := by
  refine ⟨fun k hk => by rw [mF_Z h hab (by omega)]; exact hN.1 k hk, by rw [mF_Z h hab (by omega)]; exact hN.2.1, ?_⟩
  rw [nS_cong (fun k hk => mF_Z h hab hk)]
  exact hN.2.2
theorem mZ_us {f : Nat → Int64} {a k : Nat} {x : Int64} : mZ (m_u f (44 * a + k) x) a k = x.toInt := by unfold mZ; rw [m_us]
theorem mZ_un {f : Nat → Int64} {a k i : Nat} {x : Int64} (h : i ≠ k) : mZ (m_u f (44 * a + k) x) a i = mZ f a i := by unfold mZ; rw [m_un (by omega)]
theorem m_ix (a k : Nat) : (44 : Int32) * nI a + nI k = nI (44 * a + k) := by
  rw [show (44 : Int32) = nI 44 from rfl, pk_mul, nI_add]
theorem m_cl {a k : Nat} (ha : a < 1067) (hk : k < 44) : (nI (44 * a + k)).toNatClampNeg = 44 * a + k := nI_clamp (by omega)
theorem m_in {a k : Nat} (ha : a < 1067) (hk : k < 44) : vp_in (nI (44 * a + k)) 46948 := vp_in_nI (by omega) (by omega)
theorem nC_bound {z : Nat → Int} {M : Int} (hM : 0 ≤ M ∧ M ≤ 9000000000) : ∀ {n : Nat}, (∀ k, k < n → -(M * 1000000000) ≤ z k ∧ z k ≤ M * 1000000000) → -(M + 10) ≤ nC z n ∧ nC z n ≤ M + 10
  | 0, _ => by simp only [nC]; omega
  | n + 1, h => by
    have ih := nC_bound hM (n := n) (fun k hk => h k (Nat.lt_succ_of_lt hk))
    have hn := h n (Nat.lt_succ_self n)
    rw [nC]
    omega
/-- a sum that is small has -1 or 0 above -/
theorem Nm_of {f : Nat → Int64} {a : Nat} {v : Int} (h : ∀ k, k < 43 → 0 ≤ mZ f a k ∧ mZ f a k < 1000000000) (hs : nS (mZ f a) 44 = v) (h1 : -(nB ^ 43) ≤ v) (h2 : v < nB ^ 43) : Nm f a v := by
  refine ⟨h, ?_, hs⟩
  have b := nS_bound (n := 43) h
  have e : nS (mZ f a) 44 = nS (mZ f a) 43 + mZ f a 43 * nB ^ 43 := rfl
  rw [hs] at e
  have hp := nB_pow 43
  generalize nB ^ 43 = P at *
  generalize mZ f a 43 = t at *
  split
  · rename_i hv
    have t1 : t < 0 := by
      rcases Int.lt_or_le t 0 with q | q
      · exact q
      · have := Int.mul_nonneg q (Int.le_of_lt hp); omega
    have t2 : ¬ t < -1 := fun q => by
      have : t * P ≤ -2 * P := Int.mul_le_mul_of_nonneg_right (by omega) (Int.le_of_lt hp)
      omega
    omega
  · rename_i hv
    have t1 : ¬ t < 0 := fun q => by
      have : t * P ≤ -1 * P := Int.mul_le_mul_of_nonneg_right (by omega) (Int.le_of_lt hp)
      omega
    have t2 : ¬ 1 ≤ t := fun q => by
      have : 1 * P ≤ t * P := Int.mul_le_mul_of_nonneg_right q (Int.le_of_lt hp)
      omega
    omega
section CM
variable {L0 : Nat} {xs : Nat → Int32} {Q : xiQ} {I : Nat → Nat → Int32} {L : Nat → Nat → Int64}
/-- how far carry has come -/
def cryI (f g : Nat → Int64) (a k : Nat) : Prop := mF f g a ∧ (∀ i, i < k → mZ g a i = nD (mZ f a) i) ∧ mZ g a k = mZ f a k + nC (mZ f a) k ∧ ∀ i, k < i → i < 44 → mZ g a i = mZ f a i
theorem c_carry_loop {a : Nat} (ha : a < 1067) {f : Nat → Int64} (hf : ∀ k, k < 44 → -8000000000000000000 ≤ mZ f a k ∧ mZ f a k ≤ 8000000000000000000) (hQ : ∀ g, cryI f g a 43 → Q none (xSH, xRF, I, m_r L 38 g)) :
    ∀ (n k : Nat) (g : Nat → Int64), k + n = 43 → cryI f g a k → xi_V (xG L0 xs) 108 2 [some (Value.ref 37), some (Value.int (nI a)), some (Value.int (nI k)), none, none] [] (xSH, xRF, I, m_r L 38 g) 0 0 Q
  | 0, k, g, hk, hi => by
    refine b_M_carry_2 ⟨fun _ => ?_, fun c => ?_⟩
    · have : k = 43 := by omega
      subst this
      exact hQ g hi
    · exact absurd (by rw [show (43 : Int32) = nI 43 from rfl]; exact nI_le (by omega) (by omega)) c
  | n + 1, k, g, hk, hi => by
    have hk2 : k < 43 := by omega
    obtain ⟨i1, i2, i3, i4⟩ := hi
    have hc := nC_bound (M := 8000000000) (by decide) (n := k) (z := mZ f a) (fun i hi => by have := hf i (by omega); omega)
    have hfk := hf k (by omega)
    have hfk1 := hf (k + 1) (by omega)
    refine b_M_carry_2 ⟨fun c => ?_, fun _ => ?_⟩
    · exact absurd c (by rw [show (43 : Int32) = nI 43 from rfl]; exact nI_ge hk2 (by omega))
    · rw [m_ix, m_cl ha (by omega), m_rs]
      refine ⟨m_in ha (by omega), c_floorModL fun r hr => ?_⟩
      refine b_M_carry_37 ?_
      rw [m_ix, nI_1, m_cl ha (by omega), show 44 * a + k + 1 = 44 * a + (k + 1) from rfl, m_cl ha (by omega)]
      refine ⟨m_in ha (by omega), m_in ha (by omega), c_floorDivL fun r2 hr2 => ?_⟩
      rw [m_ur, m_rs, m_rr, m_rs]
      refine b_M_carry_59 ?_
      rw [m_cl ha (by omega)]
      refine ⟨m_in ha (by omega), ?_⟩
      rw [m_ur, m_rs, m_rr, nI_1]
      have e0 : (g (44 * a + k)).toInt = mZ f a k + nC (mZ f a) k := i3
      rw [e0] at hr hr2
      refine c_carry_loop ha hf hQ n (k + 1) _ (by omega) ⟨mF_tr i1 (mF_tr (mF_u (by omega)) (mF_u (by omega))), fun i hi => ?_, ?_, fun i h1 h2 => ?_⟩
      · rw [mZ_un (by omega)]
        by_cases e : i = k
        · subst e
          rw [mZ_us, hr]
          rfl
        · rw [mZ_un e, i2 i (by omega)]
      · rw [mZ_us]
        have e1 : (m_u g (44 * a + k) r (44 * a + (k + 1))).toInt = mZ f a (k + 1) := by
          rw [m_un (by omega)]
          exact i4 (k + 1) (by omega) (by omega)
        rw [fb_addL (by rw [e1, hr2]; omega) (by rw [e1, hr2]; omega), e1, hr2]
        rfl
      · rw [mZ_un (by omega), mZ_un (by omega), i4 i (by omega) h2]
theorem c_carry {a : Nat} (ha : a < 1067) {f : Nat → Int64} {v : Int} (hf : ∀ k, k < 44 → -8000000000000000000 ≤ mZ f a k ∧ mZ f a k ≤ 8000000000000000000) (hv : nS (mZ f a) 44 = v) (h1 : -(nB ^ 43) ≤ v) (h2 : v < nB ^ 43) (hQ : ∀ g, mF f g a → Nm g a v → Q none (xSH, xRF, I, m_r L 38 g)) :
    xi_V (xG L0 xs) 108 0 [some (Value.ref 37), some (Value.int (nI a)), none, none, none] [] (xSH, xRF, I, m_r L 38 f) 0 0 Q := by
  refine b_M_carry_0 ?_
  refine c_carry_loop ha hf (fun g hg => hQ g hg.1 ?_) 43 0 f rfl ⟨mF_rf, fun i hi => absurd hi (Nat.not_lt_zero i), by simp [nC], fun i _ _ => rfl⟩
  refine Nm_of (fun k hk => ?_) ?_ h1 h2
  · rw [hg.2.1 k hk]
    exact nD_rng _ _
  · rw [← hv, ← show nS (mZ f a) 43 + mZ f a 43 * nB ^ 43 = nS (mZ f a) 44 from rfl, ← nC_sum (mZ f a) 43, show nS (mZ g a) 44 = nS (mZ g a) 43 + mZ g a 43 * nB ^ 43 from rfl, hg.2.2.1, nS_cong hg.2.1, Int.add_mul]
    omega
end CM
