/-! isBelowZero, length, isZero, divide, gcd of the class -/
theorem nB20 : nB ^ 20 = nB ^ 19 * 1000000000 := Int.pow_succ nB 19
theorem l_v (x : Int64) : x = zL x.toInt := (Int64.ofInt_toInt x).symm
def pu : Nat → Int
  | 0 => 0
  | m + 1 => 10 ^ m
theorem pu_d : ∀ m, pu (m + 1) / 10 = pu m
  | 0 => by decide
  | m + 1 => by
    show (10 : Int) ^ (m + 1) / 10 = 10 ^ m
    rw [Int.pow_succ, Int.mul_ediv_cancel _ (by decide)]
theorem p10_b {m : Nat} (h : m ≤ 9) : 1 ≤ (10 : Int) ^ m ∧ (10 : Int) ^ m ≤ 1000000000 := by
  have : ∀ i : Fin 10, 1 ≤ (10 : Int) ^ i.val ∧ (10 : Int) ^ i.val ≤ 1000000000 := by decide
  exact this ⟨m, by omega⟩
theorem div10 {H : Int} {m : Nat} : H / 10 ^ m = H / 10 ^ (m + 1) * 10 + H / 10 ^ m % 10 := by
  rw [Int.pow_succ, ← Int.ediv_ediv_of_nonneg (Int.le_of_lt (Int.pow_pos (by decide)))]
  have := Int.mul_ediv_add_emod (H / 10 ^ m) 10
  omega
section BD
variable {L0 : Nat} {xs : Nat → Int32} {Q : xiQ} {I : Nat → Nat → Int32} {L : Nat → Nat → Int64}
theorem c_bBelow {v : Int} (hg : Bg (L 16) v) (h1 : -(nB ^ 20) ≤ 2 * v) (h2 : 2 * v < nB ^ 20) (hQ : Q (some (Value.int (if v < 0 then 1 else 0))) (xSH, xRF, I, L)) : xi_V (xG L0 xs) 12 0 [some (Value.ref 15)] [] (xSH, xRF, I, L) 0 0 Q := by
  have e5 : (500000000 : Int64).toInt = 500000000 := by decide
  have hb := vS_b2 hg.1
  have hs : vS (L 16) 20 = vS (L 16) 19 + (L 16 19).toInt * nB ^ 19 := vS_s _ 19
  have b19 := nS_bound (z := fun k => (L 16 k).toInt) (n := 19) (fun k hk => hg.1 k (by omega))
  have b19 : 0 ≤ vS (L 16) 19 ∧ vS (L 16) 19 < nB ^ 19 := b19
  have hp := nB_pow 19
  have hv : vS (L 16) 20 = if v < 0 then v + nB ^ 20 else v := by
    rw [hg.2]
    split
    · rename_i c
      rw [← Int.add_emod_right, Int.emod_eq_of_lt (by omega) (by omega)]
    · rename_i c
      rw [Int.emod_eq_of_lt (by omega) (by have := nB_pow 20; omega)]
  have key : (L 16 19).toInt < 500000000 ↔ ¬ v < 0 := by
    rw [nB20] at h1 h2 hv
    generalize nB ^ 19 = P at *
    generalize vS (L 16) 19 = S at *
    generalize (L 16 19).toInt = d at *
    constructor
    · intro c z
      rw [if_pos z] at hv
      have : d * P ≤ 499999999 * P := Int.mul_le_mul_of_nonneg_right (by omega) (Int.le_of_lt hp)
      omega
    · intro z
      rw [if_neg z] at hv
      rcases Int.lt_or_le d 500000000 with c | c
      · exact c
      · have : 500000000 * P ≤ d * P := Int.mul_le_mul_of_nonneg_right c (Int.le_of_lt hp)
        omega
  refine b_Big_isBelowZero_0 ⟨rfl, rfl⟩ ⟨b_v (k := 19) (by decide), ?_⟩
  rw [show (19 : Int32).toNatClampNeg = 19 from rfl, cmp_lt, Int64.lt_iff_toInt_lt, e5, key]
  refine ⟨fun c => ⟨by decide, ?_⟩, fun c => ⟨by decide, ?_⟩⟩
  · rw [if_neg c] at hQ; exact hQ
  · rw [if_pos (Decidable.not_not.mp c)] at hQ; exact hQ
theorem c_bLen_lp {o c : Nat} (h0 : xa_Big_length o c) {v : Nat} (hg : Bx (L c) (v : Int)) (hQ : ∀ n, isLen v n → Q (some (Value.int (nI n))) (xSH, xRF, I, L)) :
    ∀ m : Nat, m < 20 → (∀ i, m < i → i < 20 → (L c i).toInt = 0) → xi_V (xG L0 xs) 13 3 [some (Value.ref o), some (Value.int (nI m))] [] (xSH, xRF, I, L) 0 0 Q
  | 0, hm, hz => by
    refine b_Big_length_3 h0 ⟨fun _ => hQ 1 ⟨by decide, ?_, Or.inl rfl⟩, fun c => absurd (by decide) c⟩
    have hc : nS (fun k => (L c k).toInt) (1 + 19) = nS (fun k => (L c k).toInt) 1 := nS_cut 19 (fun k k1 k2 => hz k (by omega) (by omega))
    have hv : nS (fun k => (L c k).toInt) (1 + 19) = (v : Int) := hg.2
    have h1 : nS (fun k => (L c k).toInt) 1 = 0 + (L c 0).toInt * 1 := rfl
    have hd := hg.1 0 (by decide)
    rw [Nat.pow_one]
    omega
  | m + 1, hm, hz => by
    refine b_Big_length_3 h0 ⟨fun c => absurd c (nI_nle (by omega) (by omega)), fun _ => ⟨b_v hm, ?_⟩⟩
    rw [b_k hm, m_cmpE, m_eq0, pk_m1, nI_1]
    refine ⟨fun e => c_bLen_lp h0 hg hQ m (by omega) (fun i h1 h2 => ?_), fun e => hQ (m + 2) ⟨by omega, ?_, Or.inr ?_⟩⟩
    · by_cases z : i = m + 1
      · rw [z]; exact e
      · exact hz i (by omega) h2
    · have hc : nS (fun k => (L c k).toInt) (m + 2 + (18 - m)) = nS (fun k => (L c k).toInt) (m + 2) := nS_cut (18 - m) (fun k k1 k2 => hz k (by omega) (by omega))
      rw [show m + 2 + (18 - m) = 20 by omega] at hc
      have hv : nS (fun k => (L c k).toInt) 20 = (v : Int) := hg.2
      have hb := nS_bound (z := fun k => (L c k).toInt) (n := m + 2) (fun k hk => hg.1 k (by omega))
      rw [← hc, hv, nBn] at hb
      exact Int.ofNat_lt.mp hb.2
    · have hc : nS (fun k => (L c k).toInt) (m + 2 + (18 - m)) = nS (fun k => (L c k).toInt) (m + 2) := nS_cut (18 - m) (fun k k1 k2 => hz k (by omega) (by omega))
      rw [show m + 2 + (18 - m) = 20 by omega] at hc
      have hv : nS (fun k => (L c k).toInt) 20 = (v : Int) := hg.2
      have hd := hg.1 (m + 1) hm
      have hl := nS_low (z := fun k => (L c k).toInt) (n := m + 1) (fun k hk => (hg.1 k (by omega)).1) (show 0 < (L c (m + 1)).toInt by omega)
      have hl : nB ^ (m + 1) ≤ nS (fun k => (L c k).toInt) (m + 2) := hl
      rw [← hc, hv, nBn] at hl
      exact Int.ofNat_le.mp hl
theorem c_bLen {o c : Nat} (h0 : xa_Big_length o c) {v : Nat} (hg : Bx (L c) (v : Int)) (hQ : ∀ n, isLen v n → Q (some (Value.int (nI n))) (xSH, xRF, I, L)) : xi_V (xG L0 xs) 13 0 [some (Value.ref o), none] [] (xSH, xRF, I, L) 0 0 Q :=
  b_Big_length_0 h0 (c_bLen_lp h0 hg hQ 19 (by decide) (fun i h1 h2 => by omega))
theorem c_bZero {v : Nat} (hg : Bx (L 16) (v : Int)) (hQ : Q (some (Value.int (if v = 0 then 1 else 0))) (xSH, xRF, I, L)) : xi_V (xG L0 xs) 14 0 [some (Value.ref 15)] [] (xSH, xRF, I, L) 0 0 Q := by
  refine b_Big_isZero_0 ⟨rfl, rfl⟩ (c_bLen (Or.inl ⟨rfl, rfl⟩) hg (fun n hn => b_Big_isZero_4 ⟨rfl, rfl⟩ ?_))
  have hd := hg.1 0 (by decide)
  have hs := nS_shift (fun k => (L 16 k).toInt) 1 19
  have hv : nS (fun k => (L 16 k).toInt) 20 = (v : Int) := hg.2
  have h1 : nS (fun k => (L 16 k).toInt) 1 = 0 + (L 16 0).toInt * 1 := rfl
  have hr : 0 ≤ nS (fun i => (L 16 (1 + i)).toInt) 19 := (nS_bound (z := fun i => (L 16 (1 + i)).toInt) (n := 19) (fun k hk => hg.1 (1 + k) (by omega))).1
  rw [show 1 + 19 = 20 from rfl, hv, h1, show nB ^ 1 = 1000000000 from rfl] at hs
  have hn1 := hn.1
  have hn3 := hn.2.2
  have hn2 := hn.2.1
  have hn20 : n < 2147483648 := by
    rcases hn3 with e | e
    · omega
    · have hb := (Bx_b hg).2
      rw [nBn] at hb
      have hb2 := Int.ofNat_lt.mp hb
      have : 1000000000 ^ (n - 1) < 1000000000 ^ 20 := Nat.lt_of_le_of_lt e hb2
      have := (Nat.pow_lt_pow_iff_right (by decide)).mp this
      omega
  refine ⟨fun c => ⟨by decide, ?_⟩, fun c => ⟨b_v (k := 0) (by decide), ?_⟩⟩
  · have hne : n ≠ 1 := fun z => c (by rw [z]; rfl)
    have hvn : v ≠ 0 := fun z => by
      have := hn3.resolve_left hne
      have h2 : 0 < 1000000000 ^ (n - 1) := Nat.pow_pos (by decide)
      omega
    rw [if_neg hvn] at hQ; exact hQ
  · have e1 : n = 1 := (nI_eq (b := 1) (by omega) (by decide)).mp c
    rw [e1, Nat.pow_one] at hn2
    rw [show (0 : Int32).toNatClampNeg = 0 from rfl, m_cmpE, m_eq0]
    refine ⟨fun z => ⟨by decide, ?_⟩, fun z => ⟨by decide, ?_⟩⟩
    · rw [if_neg (by omega)] at hQ; exact hQ
    · rw [if_pos (by omega)] at hQ; exact hQ
/-- digit by digit -/
theorem c_bDiv10 {o o3 c c3 : Nat} (h0 : xa_Big_divide o o3 c c3) {v8 : Int32} {d H ρ0 : Int} (hd : 1 ≤ d ∧ d ≤ 900000000000000000) (hH : 0 ≤ H ∧ H < 1000000000) (hρ : 0 ≤ ρ0 ∧ ρ0 < d)
    (hQ : ∀ τ ρ : Int, 0 ≤ τ → τ < 1000000000 → 0 ≤ ρ → ρ < d → τ * d + ρ = ρ0 * 1000000000 + H → xi_V (xG L0 xs) 15 124 [some (Value.ref o), some (Value.long (zL d)), none, some (Value.ref o3), some (Value.long ((10 : Int64))), none, some (Value.long (zL ρ)), none, some (Value.int v8), some (Value.long (zL H)), none, some (Value.long (zL τ)), none, none, none] [] (xSH, xRF, I, L) 0 0 Q) :
    ∀ (n : Nat) (τ ρ : Int), n ≤ 9 → 0 ≤ τ → 0 ≤ ρ → ρ < d → τ * d + ρ = ρ0 * 10 ^ (9 - n) + H / 10 ^ n → xi_V (xG L0 xs) 15 73 [some (Value.ref o), some (Value.long (zL d)), none, some (Value.ref o3), some (Value.long ((10 : Int64))), none, some (Value.long (zL ρ)), none, some (Value.int v8), some (Value.long (zL H)), none, some (Value.long (zL τ)), none, some (Value.long (zL (pu n))), none] [] (xSH, xRF, I, L) 0 0 Q
  | 0, τ, ρ, hn, t0, r0, r1, hi => by
    refine b_Big_divide_73 h0 ⟨fun _ => ?_, fun c => absurd (by show lg_cmp (zL 0) 0 ≤ 0; decide) c⟩
    rw [show (10 : Int) ^ (9 - 0) = 1000000000 by decide, show (10 : Int) ^ 0 = 1 from rfl, Int.ediv_one] at hi
    refine hQ τ ρ t0 ?_ r0 r1 hi
    rcases Int.lt_or_le τ 1000000000 with z | z
    · exact z
    · have h1 : 1000000000 * d ≤ τ * d := Int.mul_le_mul_of_nonneg_right z (by omega)
      omega
  | n + 1, τ, ρ, hn, t0, r0, r1, hi => by
    have hp := p10_b (m := n) (by omega)
    have hq : 0 ≤ H / 10 ^ n ∧ H / 10 ^ n ≤ H := ⟨Int.ediv_nonneg hH.1 (by omega), Int.ediv_le_self _ hH.1⟩
    have hdg : 0 ≤ H / 10 ^ n % 10 ∧ H / 10 ^ n % 10 < 10 := ⟨Int.emod_nonneg _ (by decide), Int.emod_lt_of_pos _ (by decide)⟩
    have t1 : τ < 1000000000 := by
      rcases Int.lt_or_le τ 1000000000 with z | z
      · exact z
      · have h1 : 1000000000 * d ≤ τ * d := Int.mul_le_mul_of_nonneg_right z (by omega)
        have h2 : (10 : Int) ^ (9 - (n + 1)) ≤ 1000000000 := (p10_b (by omega)).2
        have h2' : 0 ≤ (10 : Int) ^ (9 - (n + 1)) := by have := (p10_b (m := 9 - (n + 1)) (by omega)).1; omega
        have h3 : ρ0 * 10 ^ (9 - (n + 1)) ≤ (d - 1) * 1000000000 := (mulb (x := ρ0) (y := (10 : Int) ^ (9 - (n + 1))) (A := d - 1) (B := 1000000000) ⟨hρ.1, by omega⟩ ⟨h2', h2⟩).2
        have h4 : H / 10 ^ (n + 1) ≤ H := Int.ediv_le_self _ hH.1
        omega
    have e10 : (10 : Int64) = zL 10 := by decide
    have hX : 0 ≤ ρ * 10 + H / 10 ^ n % 10 ∧ ρ * 10 + H / 10 ^ n % 10 < 9000000000000000000 := by omega
    have hXq : 0 ≤ (ρ * 10 + H / 10 ^ n % 10) / d := Int.ediv_nonneg hX.1 (by omega)
    have hXr : 0 ≤ (ρ * 10 + H / 10 ^ n % 10) % d ∧ (ρ * 10 + H / 10 ^ n % 10) % d < d := ⟨Int.emod_nonneg _ (by omega), Int.emod_lt_of_pos _ (by omega)⟩
    have ne : ∀ z : Int, 0 < z → z < 9223372036854775808 → ¬ zL z = 0 := fun z h1 h2 e => by
      have := congrArg Int64.toInt e
      rw [zL_t (by omega) h2, m_z0] at this
      omega
    refine b_Big_divide_73 h0 ⟨fun c => ?_, fun _ => ⟨ne _ (show 0 < (10 : Int) ^ n by omega) (show (10 : Int) ^ n < _ by omega), by decide, ne d (by omega) (by omega), ne d (by omega) (by omega), by decide, ?_⟩⟩
    · rw [cmp_le, Int64.lt_iff_toInt_lt, m_z0, show pu (n + 1) = 10 ^ n from rfl, zL_t (by omega) (by omega)] at c
      exact absurd (show (0 : Int) < 10 ^ n by omega) c
    · have ed : zL H / zL (pu (n + 1)) - zL H / zL (pu (n + 1)) / 10 * 10 = zL (H / 10 ^ n % 10) := by
        rw [show pu (n + 1) = 10 ^ n from rfl, zL_div hH.1 (by omega) (by omega) (by omega), e10, zL_rem hq.1 (by omega) (by decide) (by decide)]
      have eX : zL ρ * 10 + (zL H / zL (pu (n + 1)) - zL H / zL (pu (n + 1)) / 10 * 10) = zL (ρ * 10 + H / 10 ^ n % 10) := by
        rw [ed, e10, zL_mul, zL_add]
      have eu : zL (pu (n + 1)) / 10 = zL (pu n) := by
        rw [e10, show pu (n + 1) = 10 ^ n from rfl, zL_div (by omega) (by omega) (by decide) (by decide), show (10 : Int) ^ n / 10 = pu n from pu_d n]
      have et : zL τ * 10 + zL (ρ * 10 + H / 10 ^ n % 10) / zL d = zL (τ * 10 + (ρ * 10 + H / 10 ^ n % 10) / d) := by
        rw [zL_div hX.1 (by omega) (by omega) (by omega), e10, zL_mul, zL_add]
      rw [eX, eu, et, zL_rem hX.1 (by omega) (by omega) (by omega)]
      refine c_bDiv10 h0 hd hH hρ hQ n _ _ (by omega) (by omega) hXr.1 hXr.2 ?_
      have e1 := Int.mul_ediv_add_emod (ρ * 10 + H / 10 ^ n % 10) d
      have e2 := div10 (H := H) (m := n)
      have e3 : (10 : Int) ^ (9 - n) = 10 ^ (9 - (n + 1)) * 10 := by rw [show 9 - n = (9 - (n + 1)) + 1 by omega, Int.pow_succ]
      rw [e3, Int.add_mul, Int.mul_right_comm τ 10 d, ← Int.mul_assoc ρ0]
      rw [Int.mul_comm d] at e1
      generalize (ρ * 10 + H / 10 ^ n % 10) / d * d = a1 at *
      generalize (ρ * 10 + H / 10 ^ n % 10) % d = a2 at *
      generalize H / 10 ^ n % 10 = a3 at *
      generalize H / 10 ^ (n + 1) = a4 at *
      generalize ρ0 * 10 ^ (9 - (n + 1)) = a5 at *
      generalize τ * d = a6 at *
      omega
/-- a part at once -/
theorem c_bDivB {o o3 c c3 : Nat} (h0 : xa_Big_divide o o3 c c3) {v8 : Int32} {d H ρ0 : Int} (hd : 1 ≤ d ∧ d < 9000000000) (hH : 0 ≤ H ∧ H < 1000000000) (hρ : 0 ≤ ρ0 ∧ ρ0 < d)
    (hQ : ∀ τ ρ : Int, 0 ≤ τ → τ < 1000000000 → 0 ≤ ρ → ρ < d → τ * d + ρ = ρ0 * 1000000000 + H → xi_V (xG L0 xs) 15 124 [some (Value.ref o), some (Value.long (zL d)), none, some (Value.ref o3), some (Value.long ((1000000000 : Int64))), none, some (Value.long (zL ρ)), none, some (Value.int v8), some (Value.long (zL H)), none, some (Value.long (zL τ)), none, none, none] [] (xSH, xRF, I, L) 0 0 Q) :
    xi_V (xG L0 xs) 15 73 [some (Value.ref o), some (Value.long (zL d)), none, some (Value.ref o3), some (Value.long ((1000000000 : Int64))), none, some (Value.long (zL ρ0)), none, some (Value.int v8), some (Value.long (zL H)), none, some (Value.long ((0 : Int64))), none, some (Value.long ((1000000000 : Int64) / 1000000000)), none] [] (xSH, xRF, I, L) 0 0 Q := by
  have e1 : (1000000000 : Int64) / 1000000000 = 1 := by decide
  have eB : (1000000000 : Int64) = zL 1000000000 := by decide
  have ne : ∀ z : Int, 0 < z → z < 9223372036854775808 → ¬ zL z = 0 := fun z h1 h2 e => by
    have := congrArg Int64.toInt e
    rw [zL_t (by omega) h2, m_z0] at this
    omega
  have hX : 0 ≤ ρ0 * 1000000000 + H ∧ ρ0 * 1000000000 + H < 9000000000000000000 := by omega
  have hXq : 0 ≤ (ρ0 * 1000000000 + H) / d := Int.ediv_nonneg hX.1 (by omega)
  have hXr : 0 ≤ (ρ0 * 1000000000 + H) % d ∧ (ρ0 * 1000000000 + H) % d < d := ⟨Int.emod_nonneg _ (by omega), Int.emod_lt_of_pos _ (by omega)⟩
  have em := Int.mul_ediv_add_emod (ρ0 * 1000000000 + H) d
  rw [Int.mul_comm d] at em
  rw [e1]
  refine b_Big_divide_73 h0 ⟨fun c => absurd c (by decide), fun _ => ⟨by decide, by decide, ne d (by omega) (by omega), ne d (by omega) (by omega), by decide, ?_⟩⟩
  have ed : zL H / 1 - zL H / 1 / 1000000000 * 1000000000 = zL H := by
    rw [show (1 : Int64) = zL 1 by decide, zL_div hH.1 (by omega) (by decide) (by decide), Int.ediv_one, eB, zL_rem hH.1 (by omega) (by decide) (by decide), Int.emod_eq_of_lt hH.1 hH.2]
  have eX : zL ρ0 * 1000000000 + (zL H / 1 - zL H / 1 / 1000000000 * 1000000000) = zL (ρ0 * 1000000000 + H) := by
    rw [ed, eB, zL_mul, zL_add]
  have et : (0 : Int64) * 1000000000 + zL (ρ0 * 1000000000 + H) / zL d = zL ((ρ0 * 1000000000 + H) / d) := by
    rw [zL_div hX.1 (by omega) (by omega) (by omega), show (0 : Int64) * 1000000000 = zL 0 by decide, zL_add, Int.zero_add]
  rw [eX, et, zL_rem hX.1 (by omega) (by omega) (by omega), show (1 : Int64) / 1000000000 = 0 by decide]
  refine b_Big_divide_73 h0 ⟨fun _ => hQ _ _ hXq ?_ hXr.1 hXr.2 em, fun c => absurd (by decide) c⟩
  rcases Int.lt_or_le ((ρ0 * 1000000000 + H) / d) 1000000000 with z | z
  · exact z
  · have h1 : 1000000000 * d ≤ (ρ0 * 1000000000 + H) / d * d := Int.mul_le_mul_of_nonneg_right z (by omega)
    omega
end BD
