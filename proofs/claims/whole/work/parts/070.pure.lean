/-! whole numbers as words; sums; bits -/
abbrev zI (z : Int) : Int32 := Int32.ofInt z
abbrev zL (z : Int) : Int64 := Int64.ofInt z
theorem zI_add (a b : Int) : zI a + zI b = zI (a + b) := (Int32.ofInt_add a b).symm
theorem zI_sub (a b : Int) : zI a - zI b = zI (a - b) := (Int32.ofInt_sub a b).symm
theorem zI_mul (a b : Int) : zI a * zI b = zI (a * b) := (Int32.ofInt_mul a b).symm
theorem zL_add (a b : Int) : zL a + zL b = zL (a + b) := (Int64.ofInt_add a b).symm
theorem zL_sub (a b : Int) : zL a - zL b = zL (a - b) := (Int64.ofInt_sub a b).symm
theorem zL_mul (a b : Int) : zL a * zL b = zL (a * b) := (Int64.ofInt_mul a b).symm
theorem zI_t {a : Int} (h1 : -2147483648 ≤ a) (h2 : a < 2147483648) : (zI a).toInt = a := fb_ofI h1 h2
theorem zL_t {a : Int} (h1 : -9223372036854775808 ≤ a) (h2 : a < 9223372036854775808) : (zL a).toInt = a := by
  rw [Int64.toInt_ofInt, fb_bmodL h1 h2]
theorem zI_n (n : Nat) : nI n = zI (n : Int) := rfl
theorem zI_nn (n : Nat) : zI (n : Int) = nI n := rfl
theorem zL_n (n : Nat) : lN n = zL (n : Int) := rfl
theorem zI_L {a : Int} (h1 : -2147483648 ≤ a) (h2 : a < 2147483648) : (zI a).toInt64 = zL a := by
  apply Int64.toInt_inj.mp
  rw [Int32.toInt_toInt64, zI_t h1 h2, zL_t (by omega) (by omega)]
theorem nI_L {n : Nat} (h : n < 2147483648) : (nI n).toInt64 = zL (n : Int) := by rw [zI_n, zI_L (by omega) (by omega)]
theorem zI_le {a b : Int} (h1 : -2147483648 ≤ a) (h2 : a < 2147483648) (h3 : -2147483648 ≤ b) (h4 : b < 2147483648) : zI a ≤ zI b ↔ a ≤ b := by rw [Int32.le_iff_toInt_le, zI_t h1 h2, zI_t h3 h4]
theorem zI_lt {a b : Int} (h1 : -2147483648 ≤ a) (h2 : a < 2147483648) (h3 : -2147483648 ≤ b) (h4 : b < 2147483648) : zI a < zI b ↔ a < b := by rw [Int32.lt_iff_toInt_lt, zI_t h1 h2, zI_t h3 h4]
theorem zI_eq {a b : Int} (h1 : -2147483648 ≤ a) (h2 : a < 2147483648) (h3 : -2147483648 ≤ b) (h4 : b < 2147483648) : zI a = zI b ↔ a = b := by rw [← Int32.toInt_inj, zI_t h1 h2, zI_t h3 h4]
theorem zL_lt {a b : Int} (h1 : -9223372036854775808 ≤ a) (h2 : a < 9223372036854775808) (h3 : -9223372036854775808 ≤ b) (h4 : b < 9223372036854775808) : zL a < zL b ↔ a < b := by rw [Int64.lt_iff_toInt_lt, zL_t h1 h2, zL_t h3 h4]
theorem zL_eq {a b : Int} (h1 : -9223372036854775808 ≤ a) (h2 : a < 9223372036854775808) (h3 : -9223372036854775808 ≤ b) (h4 : b < 9223372036854775808) : zL a = zL b ↔ a = b := by rw [← Int64.toInt_inj, zL_t h1 h2, zL_t h3 h4]
theorem zL_div {a b : Int} (h1 : 0 ≤ a) (h2 : a < 9223372036854775808) (h3 : 0 < b) (h4 : b < 9223372036854775808) : zL a / zL b = zL (a / b) := by
  have hle : a / b ≤ a := Int.ediv_le_self _ h1
  have hge : 0 ≤ a / b := Int.ediv_nonneg h1 (Int.le_of_lt h3)
  apply Int64.toInt_inj.mp
  rw [Int64.toInt_div_of_ne_right _ _ (fun z => by have := congrArg Int64.toInt z; rw [zL_t (by omega) h4] at this; have e : (-1 : Int64).toInt = -1 := by decide
                                                   omega), zL_t (by omega) h2, zL_t (by omega) h4, zL_t (by omega) (by omega), Int.tdiv_eq_ediv_of_nonneg h1]
theorem zL_rem {a b : Int} (h1 : 0 ≤ a) (h2 : a < 9223372036854775808) (h3 : 0 < b) (h4 : b < 9223372036854775808) : zL a - zL a / zL b * zL b = zL (a % b) := by
  rw [zL_div h1 h2 h3 h4, zL_mul, zL_sub]
  congr 1
  have := Int.mul_ediv_add_emod a b
  rw [Int.mul_comm] at this
  omega
theorem cmp_lt {x y : Int64} : lg_cmp x y < (0 : Int32) ↔ x < y := by
  have := @m_cmp0 x y
  rw [Int32.lt_iff_toInt_lt] at *
  rw [Int32.le_iff_toInt_le] at this
  by_cases h : x < y
  · simp only [h, not_true_eq_false, iff_false] at this
    exact ⟨fun _ => h, fun _ => by omega⟩
  · simp only [h, not_false_eq_true, iff_true] at this
    exact ⟨fun z => by omega, fun z => absurd z h⟩
theorem cmp_gt {x y : Int64} : (0 : Int32) < lg_cmp x y ↔ y < x := by
  unfold lg_cmp
  by_cases h1 : y < x
  · simp [h1]
  · by_cases h2 : x = y
    · simp [h1, h2]
    · simp [h1, h2]
theorem cmp_le {x y : Int64} : lg_cmp x y ≤ (0 : Int32) ↔ ¬ y < x := by
  rw [← cmp_gt (x := x) (y := y), Int32.lt_iff_toInt_lt, Int32.le_iff_toInt_le]
  omega
/-- sums -/
def sm (f : Nat → Int) : Nat → Int
  | 0 => 0
  | n + 1 => sm f n + f n
theorem sm_s (f : Nat → Int) (n : Nat) : sm f (n + 1) = sm f n + f n := rfl
theorem sm_cong {f g : Nat → Int} : ∀ {n : Nat}, (∀ k, k < n → f k = g k) → sm f n = sm g n
  | 0, _ => rfl
  | n + 1, h => by rw [sm, sm, sm_cong (fun k hk => h k (Nat.lt_succ_of_lt hk)), h n (Nat.lt_succ_self n)]
theorem sm_zero : ∀ n, sm (fun _ => 0) n = 0
  | 0 => rfl
  | n + 1 => by rw [sm, sm_zero n]; rfl
theorem sm_add (f g : Nat → Int) : ∀ n, sm (fun k => f k + g k) n = sm f n + sm g n
  | 0 => rfl
  | n + 1 => by rw [sm, sm, sm, sm_add f g n]; omega
theorem sm_mul (c : Int) (f : Nat → Int) : ∀ n, sm (fun k => c * f k) n = c * sm f n
  | 0 => (Int.mul_zero c).symm
  | n + 1 => by rw [sm, sm, sm_mul c f n, Int.mul_add]
theorem sm_mul' (c : Int) (f : Nat → Int) : ∀ n, sm (fun k => f k * c) n = sm f n * c
  | 0 => (Int.zero_mul c).symm
  | n + 1 => by rw [sm, sm, sm_mul' c f n, Int.add_mul]
theorem sm_swap (f : Nat → Nat → Int) (m : Nat) : ∀ n, sm (fun i => sm (fun j => f i j) m) n = sm (fun j => sm (fun i => f i j) n) m
  | 0 => by
    show (0 : Int) = sm (fun j => 0) m
    rw [sm_zero]
  | n + 1 => by rw [sm, sm_swap f m n, ← sm_add]; rfl
theorem sm_nn {f : Nat → Int} : ∀ {n : Nat}, (∀ k, k < n → 0 ≤ f k) → 0 ≤ sm f n
  | 0, _ => Int.le_refl 0
  | n + 1, h => by
    have := sm_nn (n := n) (fun k hk => h k (Nat.lt_succ_of_lt hk))
    have := h n (Nat.lt_succ_self n)
    rw [sm]; omega
theorem sm_le {f g : Nat → Int} : ∀ {n : Nat}, (∀ k, k < n → f k ≤ g k) → sm f n ≤ sm g n
  | 0, _ => Int.le_refl 0
  | n + 1, h => by
    have := sm_le (n := n) (fun k hk => h k (Nat.lt_succ_of_lt hk))
    have := h n (Nat.lt_succ_self n)
    rw [sm, sm]; omega
theorem sm_const (c : Int) : ∀ n : Nat, sm (fun _ => c) n = n * c
  | 0 => by rw [sm]; simp
  | n + 1 => by rw [sm, sm_const c n, Int.natCast_succ, Int.add_mul, Int.one_mul]
theorem sm_bound {f : Nat → Int} {c : Int} {n : Nat} (h : ∀ k, k < n → -c ≤ f k ∧ f k ≤ c) : -(n * c) ≤ sm f n ∧ sm f n ≤ n * c := by
  have h1 := sm_le (f := f) (g := fun _ => c) (n := n) (fun k hk => (h k hk).2)
  have h2 := sm_le (f := fun _ => -c) (g := f) (n := n) (fun k hk => (h k hk).1)
  rw [sm_const] at h1 h2
  rw [Int.mul_neg] at h2
  exact ⟨h2, h1⟩
theorem sm_mono {f : Nat → Int} {m : Nat} : ∀ d, (∀ k, k < m + d → 0 ≤ f k) → sm f m ≤ sm f (m + d)
  | 0, _ => Int.le_refl _
  | d + 1, h => by
    have := sm_mono (m := m) d (fun k hk => h k (by omega))
    have := h (m + d) (by omega)
    show sm f m ≤ sm f (m + d) + f (m + d)
    omega
theorem sm_part {f : Nat → Int} {n i : Nat} (h : ∀ k, k < n → 0 ≤ f k) (hi : i < n) : f i ≤ sm f n := by
  have h1 := sm_mono (f := f) (m := i + 1) (n - (i + 1)) (fun k hk => h k (by omega))
  rw [show i + 1 + (n - (i + 1)) = n by omega] at h1
  have h2 := sm_nn (f := f) (n := i) (fun k hk => h k (by omega))
  rw [sm] at h1
  omega
theorem sm_split (f : Nat → Int) (m : Nat) : ∀ n, sm f (m + n) = sm f m + sm (fun k => f (m + k)) n
  | 0 => (Int.add_zero _).symm
  | n + 1 => by
    show sm f (m + n) + f (m + n) = _
    rw [sm_split f m n, sm]; omega
/-- bit i of a set -/
def bt (s i : Nat) : Nat := s / 2 ^ i % 2
theorem bt_01 (s i : Nat) : bt s i = 0 ∨ bt s i = 1 := by unfold bt; omega
theorem bt_le (s i : Nat) : bt s i ≤ 1 := by unfold bt; omega
theorem sh_l : ∀ n, n < 32 → ((nI n &&& 31).toBitVec.smod 32).toNat = n := by decide +kernel
theorem bt_I {s i : Nat} (hs : s < 2147483648) (hi : i < 32) : (nI s >>> (nI i &&& 31)) &&& 1 = nI (bt s i) := by
  rw [pk_shrN (by omega) _ i (sh_l i hi), pk_andN (n := s / 2 ^ i) (Nat.lt_of_le_of_lt (Nat.div_le_self _ _) (by omega)) (m := 1) 1 (by decide)]
  rfl
theorem sh_1 {i : Nat} (hi : i < 31) : (1 : Int32) <<< (nI i &&& 31) = nI (2 ^ i) := by
  have h : 2 ^ i < 2 ^ 31 := Nat.pow_lt_pow_right (by decide) hi
  have := pk_shlN (n := 1) (nI i &&& 31) i (sh_l i (by omega)) (by rw [Nat.one_mul]; omega)
  rw [Nat.one_mul] at this
  exact this
theorem bt_zero (i : Nat) : bt 0 i = 0 := by unfold bt; rw [Nat.zero_div]
theorem bt_hi {s i : Nat} (h : s < 2 ^ i) : bt s i = 0 := by unfold bt; rw [Nat.div_eq_of_lt h]
/-- how many of the first n bits -/
def bc (s : Nat) : Nat → Nat
  | 0 => 0
  | n + 1 => bc s n + bt s n
theorem bc_le (s : Nat) : ∀ n, bc s n ≤ n
  | 0 => Nat.le_refl 0
  | n + 1 => by have := bc_le s n; have := bt_le s n; rw [bc]; omega
theorem nI_eqI {a b : Nat} (ha : a < 2147483648) (hb : b < 2147483648) : nI a = nI b ↔ a = b := nI_eq (by omega) (by omega)
