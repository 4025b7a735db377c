/-! isEven, half, isLess -/
theorem m_2 : (2 : Int64).toInt = 2 := by decide
theorem m_d2 {x : Int64} (h : 0 ≤ x.toInt) : (x / 2).toInt = x.toInt / 2 ∧ (x - x / 2 * 2).toInt = x.toInt % 2 := by
  have hr := fb_rngL x
  have e1 : (x / 2).toInt = x.toInt / 2 := by
    rw [Int64.toInt_div_of_ne_right _ _ (by decide), m_2, Int.tdiv_eq_ediv_of_nonneg h]
  have e2 : (x / 2 * 2).toInt = x.toInt / 2 * 2 := by
    rw [fb_mulL (by rw [e1, m_2]; omega) (by rw [e1, m_2]; omega), e1, m_2]
  refine ⟨e1, ?_⟩
  rw [fb_subL (by rw [e2]; omega) (by rw [e2]; omega), e2]
  omega
theorem nS_even (z : Nat → Int) : ∀ n, nS z (n + 1) % 2 = z 0 % 2
  | 0 => by simp [nS]
  | n + 1 => by
    have ih := nS_even z n
    have e : nS z (n + 2) = nS z (n + 1) + z (n + 1) * (nB ^ n * 1000000000) := by rw [← Int.pow_succ]; rfl
    have e2 : z (n + 1) * (nB ^ n * 1000000000) = (z (n + 1) * nB ^ n) * 1000000000 := by rw [Int.mul_assoc]
    rw [e, e2]
    generalize z (n + 1) * nB ^ n = w
    omega
theorem Nm_even {f : Nat → Int64} {a : Nat} {v : Int} (h : Nm f a v) : v % 2 = mZ f a 0 % 2 := by
  rw [← h.2.2]; exact nS_even _ 43
def dn : Nat → Int32
  | 0 => -1
  | m + 1 => nI m
theorem dn_s (m : Nat) : nI m + (-1) = dn m := by
  cases m with
  | zero => decide
  | succ m => exact pk_m1 m
/-- a higher digit decides -/
theorem nS_lt {z w : Nat → Int} {k : Nat} (hz : ∀ i, i < k → 0 ≤ z i ∧ z i < 1000000000) (hw : ∀ i, i < k → 0 ≤ w i ∧ w i < 1000000000) (h : z k < w k) : ∀ d, (∀ i, k < i → i < k + 1 + d → z i = w i) → nS z (k + 1 + d) < nS w (k + 1 + d)
  | 0, _ => by
    have b1 := nS_bound (n := k) hz
    have b2 := nS_bound (n := k) hw
    have hp := nB_pow k
    show nS z k + z k * nB ^ k < nS w k + w k * nB ^ k
    have : (z k + 1) * nB ^ k ≤ w k * nB ^ k := Int.mul_le_mul_of_nonneg_right (by omega) (Int.le_of_lt hp)
    rw [Int.add_mul, Int.one_mul] at this
    omega
  | d + 1, he => by
    have ih := nS_lt hz hw h d (fun i h1 h2 => he i h1 (by omega))
    show nS z (k + 1 + d) + z (k + 1 + d) * nB ^ (k + 1 + d) < nS w (k + 1 + d) + w (k + 1 + d) * nB ^ (k + 1 + d)
    rw [he (k + 1 + d) (by omega) (by omega)]
    omega
theorem Nm_lt {f : Nat → Int64} {a b : Nat} {x y : Int} (hx : Nm f a x) (hy : Nm f b y) (hx0 : 0 ≤ x) (hy0 : 0 ≤ y) {k : Nat} (hk : k < 44) (he : ∀ i, k < i → i < 44 → mZ f a i = mZ f b i) (h : mZ f a k < mZ f b k) : x < y := by
  have t1 : mZ f a 43 = 0 := by rw [hx.2.1, if_neg (by omega)]
  have t2 : mZ f b 43 = 0 := by rw [hy.2.1, if_neg (by omega)]
  have r1 : ∀ i, i < 44 → 0 ≤ mZ f a i ∧ mZ f a i < 1000000000 := fun i hi => by
    by_cases e : i = 43
    · subst e; rw [t1]; decide
    · exact hx.1 i (by omega)
  have r2 : ∀ i, i < 44 → 0 ≤ mZ f b i ∧ mZ f b i < 1000000000 := fun i hi => by
    by_cases e : i = 43
    · subst e; rw [t2]; decide
    · exact hy.1 i (by omega)
  have := nS_lt (k := k) (fun i hi => r1 i (by omega)) (fun i hi => r2 i (by omega)) h (43 - k) (fun i h1 h2 => he i h1 (by omega))
  rw [show k + 1 + (43 - k) = 44 by omega, hx.2.2, hy.2.2] at this
  exact this
theorem Nm_eq {f : Nat → Int64} {a b : Nat} {x y : Int} (hx : Nm f a x) (hy : Nm f b y) (he : ∀ i, i < 44 → mZ f a i = mZ f b i) : x = y := by
  rw [← hx.2.2, ← hy.2.2, nS_cong he]
section CM7
variable {L0 : Nat} {xs : Nat → Int32} {Q : xiQ} {I : Nat → Nat → Int32} {L : Nat → Nat → Int64} {f p q r : Nat → Int64}
/-- isEven(a) -/
theorem c_isEven {a : Nat} (ha : a < 1067) {v : Int} (hv : Nm f a v) (hQ : Q (some (Value.int (if v % 2 = 0 then 1 else 0))) (xSH, xRF, I, mL L f p q r)) :
    xi_V (xG L0 xs) 121 0 [some (Value.ref 37), some (Value.int (nI a))] [] (xSH, xRF, I, mL L f p q r) 0 0 Q := by
  have e0 : (44 : Int32) * nI a = nI (44 * a + 0) := by rw [show (44 : Int32) = nI 44 from rfl, pk_mul]; rfl
  have hd := hv.1 0 (by omega)
  have e1 : (f (44 * a + 0)).toInt = mZ f a 0 := rfl
  have d2 := (m_d2 (x := f (44 * a + 0)) (by rw [e1]; exact hd.1)).2
  refine b_M_isEven_0 ?_
  rw [e0, m_cl ha (by omega), mL_38]
  refine ⟨m_in ha (by omega), by decide, fun c => ⟨by decide, ?_⟩, fun c => ⟨by decide, ?_⟩⟩
  · rw [m_cmpE, m_eq0, d2, e1, ← Nm_even hv] at c
    rw [if_neg c] at hQ
    exact hQ
  · rw [m_cmpE, m_eq0, d2, e1, ← Nm_even hv] at c
    rw [if_pos c] at hQ
    exact hQ
theorem c_isLess_loop {a b : Nat} (ha : a < 1067) (hb : b < 1067) {x y : Int} (hx : Nm f a x) (hy : Nm f b y) (hx0 : 0 ≤ x) (hy0 : 0 ≤ y) (hQ : Q (some (Value.int (if x < y then 1 else 0))) (xSH, xRF, I, mL L f p q r)) :
    ∀ m, m ≤ 44 → (∀ i, m ≤ i → i < 44 → mZ f a i = mZ f b i) → xi_V (xG L0 xs) 123 3 [some (Value.ref 37), some (Value.int (nI a)), some (Value.int (nI b)), some (Value.int (dn m)), none, none, none, none] [] (xSH, xRF, I, mL L f p q r) 0 0 Q
  | 0, _, he => by
    have := Nm_eq hx hy (fun i hi => he i (Nat.zero_le i) hi)
    rw [if_neg (by omega)] at hQ
    exact b_M_isLess_3 ⟨fun _ => ⟨by decide, hQ⟩, fun c => absurd (by decide) c⟩
  | m + 1, hm, he => by
    have hk : m < 44 := by omega
    refine b_M_isLess_3 ⟨fun c => absurd c (nI_pos (by omega)), fun _ => ?_⟩
    show vp_in ((44 : Int32) * nI a + nI m) 46948 ∧ _
    rw [show dn (m + 1) = nI m from rfl, m_ix, m_ix, m_cl ha hk, m_cl hb hk, mL_38, dn_s]
    refine ⟨m_in ha hk, m_in hb hk, fun c => ?_, fun c => ⟨fun c2 => ⟨by decide, ?_⟩, fun c2 => ⟨by decide, ?_⟩⟩⟩
    · rw [m_cmpE, ← Int64.toInt_inj] at c
      refine c_isLess_loop ha hb hx hy hx0 hy0 hQ m (by omega) (fun i h1 h2 => ?_)
      by_cases e : i = m
      · subst e; exact c
      · exact he i (by omega) h2
    · rw [m_cmpE, ← Int64.toInt_inj] at c
      rw [m_cmp0, Int64.lt_iff_toInt_lt] at c2
      have h3 : mZ f b m < mZ f a m := by
        have e1 : (f (44 * a + m)).toInt = mZ f a m := rfl
        have e2 : (f (44 * b + m)).toInt = mZ f b m := rfl
        rw [e1, e2] at c c2
        omega
      have := Nm_lt hy hx hy0 hx0 hk (fun i h1 h2 => (he i (by omega) h2).symm) h3
      rw [if_neg (by omega)] at hQ
      exact hQ
    · rw [m_cmp0] at c2
      have c2 := Decidable.not_not.mp c2
      rw [Int64.lt_iff_toInt_lt] at c2
      have := Nm_lt hx hy hx0 hy0 hk (fun i h1 h2 => he i (by omega) h2) c2
      rw [if_pos this] at hQ
      exact hQ
/-- isLess(a, b) -/
theorem c_isLess {a b : Nat} (ha : a < 1067) (hb : b < 1067) {x y : Int} (hx : Nm f a x) (hy : Nm f b y) (hx0 : 0 ≤ x) (hy0 : 0 ≤ y) (hQ : Q (some (Value.int (if x < y then 1 else 0))) (xSH, xRF, I, mL L f p q r)) :
    xi_V (xG L0 xs) 123 0 [some (Value.ref 37), some (Value.int (nI a)), some (Value.int (nI b)), none, none, none, none, none] [] (xSH, xRF, I, mL L f p q r) 0 0 Q :=
  b_M_isLess_0 (c_isLess_loop ha hb hx hy hx0 hy0 hQ 44 (by omega) (fun i h1 h2 => by omega))
end CM7
