/-! bounded words as whole numbers (from the kit's rows to paste) -/
theorem fb_rng (x : Int32) : -2147483648 ≤ x.toInt ∧ x.toInt < 2147483648 := by
  have h1 := Int32.le_toInt x
  have h2 := Int32.toInt_lt x
  omega
theorem fb_bmod {z : Int} (h1 : -2147483648 ≤ z) (h2 : z < 2147483648) : z.bmod (2 ^ 32) = z := by
  rw [Int.bmod_eq_of_le (by omega) (by omega)]
theorem fb_addI {x y : Int32} (h1 : -2147483648 ≤ x.toInt + y.toInt) (h2 : x.toInt + y.toInt < 2147483648) : (x + y).toInt = x.toInt + y.toInt := by
  rw [Int32.toInt_add, fb_bmod h1 h2]
theorem fb_subI {x y : Int32} (h1 : -2147483648 ≤ x.toInt - y.toInt) (h2 : x.toInt - y.toInt < 2147483648) : (x - y).toInt = x.toInt - y.toInt := by
  rw [Int32.toInt_sub, fb_bmod h1 h2]
theorem fb_mulI {x y : Int32} (h1 : -2147483648 ≤ x.toInt * y.toInt) (h2 : x.toInt * y.toInt < 2147483648) : (x * y).toInt = x.toInt * y.toInt := by
  rw [Int32.toInt_mul, fb_bmod h1 h2]
theorem fb_negI {x : Int32} (h : x.toInt ≠ -2147483648) : (-x).toInt = -x.toInt := by
  have := fb_rng x
  rw [Int32.toInt_neg, fb_bmod (by omega) (by omega)]
theorem fb_ofI {z : Int} (h1 : -2147483648 ≤ z) (h2 : z < 2147483648) : (Int32.ofInt z).toInt = z := by
  rw [Int32.toInt_ofInt, fb_bmod h1 h2]
theorem fb_asI (x : Int32) : Int32.ofInt x.toInt = x := Int32.ofInt_toInt x
theorem fb_rngL (x : Int64) : -9223372036854775808 ≤ x.toInt ∧ x.toInt < 9223372036854775808 := by
  have h1 := Int64.le_toInt x
  have h2 := Int64.toInt_lt x
  omega
theorem fb_bmodL {z : Int} (h1 : -9223372036854775808 ≤ z) (h2 : z < 9223372036854775808) : z.bmod (2 ^ 64) = z := by
  rw [Int.bmod_eq_of_le (by omega) (by omega)]
theorem fb_addL {x y : Int64} (h1 : -9223372036854775808 ≤ x.toInt + y.toInt) (h2 : x.toInt + y.toInt < 9223372036854775808) : (x + y).toInt = x.toInt + y.toInt := by
  rw [Int64.toInt_add, fb_bmodL h1 h2]
theorem fb_subL {x y : Int64} (h1 : -9223372036854775808 ≤ x.toInt - y.toInt) (h2 : x.toInt - y.toInt < 9223372036854775808) : (x - y).toInt = x.toInt - y.toInt := by
  rw [Int64.toInt_sub, fb_bmodL h1 h2]
theorem fb_mulL {x y : Int64} (h1 : -9223372036854775808 ≤ x.toInt * y.toInt) (h2 : x.toInt * y.toInt < 9223372036854775808) : (x * y).toInt = x.toInt * y.toInt := by
  rw [Int64.toInt_mul, fb_bmodL h1 h2]
/-! numbers in parts of nine digits -/
abbrev nB : Int := 1000000000
theorem nB_pow (n : Nat) : 0 < nB ^ n := Int.pow_pos (by decide)
def nS (z : Nat → Int) : Nat → Int
  | 0 => 0
  | n + 1 => nS z n + z n * nB ^ n
theorem nS_cong {z w : Nat → Int} : ∀ {n : Nat}, (∀ k, k < n → z k = w k) → nS z n = nS w n
  | 0, _ => rfl
  | n + 1, h => by rw [nS, nS, nS_cong (fun k hk => h k (Nat.lt_succ_of_lt hk)), h n (Nat.lt_succ_self n)]
theorem nS_add (z w : Nat → Int) : ∀ n, nS (fun k => z k + w k) n = nS z n + nS w n
  | 0 => rfl
  | n + 1 => by rw [nS, nS, nS, nS_add z w n, Int.add_mul]; omega
theorem nS_mul (c : Int) (z : Nat → Int) : ∀ n, nS (fun k => z k * c) n = nS z n * c
  | 0 => (Int.zero_mul c).symm
  | n + 1 => by rw [nS, nS, nS_mul c z n, Int.add_mul, Int.mul_right_comm]
theorem nS_zero : ∀ n, nS (fun _ => 0) n = 0
  | 0 => rfl
  | n + 1 => by rw [nS, nS_zero n]; simp
theorem nS_bound {z : Nat → Int} : ∀ {n : Nat}, (∀ k, k < n → 0 ≤ z k ∧ z k < nB) → 0 ≤ nS z n ∧ nS z n < nB ^ n
  | 0, _ => ⟨Int.le_refl 0, by show (0 : Int) < 1; decide⟩
  | n + 1, h => by
    obtain ⟨a, b⟩ := nS_bound (n := n) (fun k hk => h k (Nat.lt_succ_of_lt hk))
    obtain ⟨c, d⟩ := h n (Nat.lt_succ_self n)
    have hp := nB_pow n
    rw [nS, Int.pow_succ]
    have e1 : 0 ≤ z n * nB ^ n := Int.mul_nonneg c (Int.le_of_lt hp)
    have e2 : z n * nB ^ n ≤ (nB - 1) * nB ^ n := Int.mul_le_mul_of_nonneg_right (by omega) (Int.le_of_lt hp)
    rw [Int.sub_mul, Int.one_mul] at e2
    rw [Int.mul_comm (nB ^ n) nB]
    omega
/-- carries -/
def nC (z : Nat → Int) : Nat → Int
  | 0 => 0
  | n + 1 => (z n + nC z n) / 1000000000
def nD (z : Nat → Int) (n : Nat) : Int := (z n + nC z n) % 1000000000
theorem nD_rng (z : Nat → Int) (n : Nat) : 0 ≤ nD z n ∧ nD z n < nB := ⟨Int.emod_nonneg _ (by decide), Int.emod_lt_of_pos _ (by decide)⟩
theorem nC_sum (z : Nat → Int) : ∀ n, nS (nD z) n + nC z n * nB ^ n = nS z n
  | 0 => by simp [nS, nC]
  | n + 1 => by
    have ih := nC_sum z n
    have e : nB * ((z n + nC z n) / nB) + (z n + nC z n) % nB = z n + nC z n := Int.mul_ediv_add_emod _ _
    have e2 : nC z (n + 1) * nB ^ (n + 1) = (nB * ((z n + nC z n) / nB)) * nB ^ n := by
      rw [nC, Int.pow_succ, Int.mul_comm (nB ^ n) nB, ← Int.mul_assoc, Int.mul_comm _ nB]
    rw [nS, nS, e2, Int.add_assoc, ← Int.add_mul, nD, Int.add_comm ((z n + nC z n) % nB), e, Int.add_mul, ← ih]
    omega
/-- the parts are one, if they are parts -/
theorem nS_uniq {z w : Nat → Int} : ∀ {n : Nat}, (∀ k, k < n → 0 ≤ z k ∧ z k < nB) → (∀ k, k < n → 0 ≤ w k ∧ w k < nB) → nS z n = nS w n → ∀ k, k < n → z k = w k
  | 0, _, _, _, k, hk => absurd hk (Nat.not_lt_zero k)
  | n + 1, hz, hw, h, k, hk => by
    have bz := nS_bound (n := n) (fun k hk => hz k (Nat.lt_succ_of_lt hk))
    have bw := nS_bound (n := n) (fun k hk => hw k (Nat.lt_succ_of_lt hk))
    rw [nS, nS] at h
    have hp := nB_pow n
    have e : z n = w n := by
      have e1 : (nS z n + z n * nB ^ n) / nB ^ n = z n := by
        rw [Int.add_mul_ediv_right _ _ (Int.ne_of_gt hp), Int.ediv_eq_zero_of_lt bz.1 bz.2, Int.zero_add]
      have e2 : (nS w n + w n * nB ^ n) / nB ^ n = w n := by
        rw [Int.add_mul_ediv_right _ _ (Int.ne_of_gt hp), Int.ediv_eq_zero_of_lt bw.1 bw.2, Int.zero_add]
      rw [← e1, h, e2]
    rcases Nat.lt_succ_iff_lt_or_eq.mp hk with q | q
    · refine nS_uniq (n := n) (fun k hk => hz k (Nat.lt_succ_of_lt hk)) (fun k hk => hw k (Nat.lt_succ_of_lt hk)) ?_ k q
      rw [e] at h
      omega
    · rw [q]; exact e
