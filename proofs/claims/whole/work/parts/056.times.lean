/-! times -/
theorem nS_upd {z w : Nat → Int} {m : Nat} (ho : ∀ k, k ≠ m → w k = z k) : ∀ {n : Nat}, m < n → nS w n = nS z n + (w m - z m) * nB ^ m
  | 0, h => absurd h (Nat.not_lt_zero m)
  | n + 1, h => by
    by_cases e : m = n
    · subst e
      rw [nS, nS, nS_cong (fun k hk => ho k (by omega)), Int.sub_mul]
      omega
    · rw [nS, nS, nS_upd ho (show m < n by omega), ho n (fun z => e z.symm)]
      omega
theorem nB_add (i j : Nat) : nB ^ (i + j) = nB ^ i * nB ^ j := Int.pow_add nB i j
theorem nS_mono {z : Nat → Int} {n : Nat} (hz : ∀ k, 0 ≤ z k) : ∀ d, nS z n ≤ nS z (n + d)
  | 0 => Int.le_refl _
  | d + 1 => by
    have ih := nS_mono (n := n) hz d
    have : 0 ≤ z (n + d) * nB ^ (n + d) := Int.mul_nonneg (hz _) (Int.le_of_lt (nB_pow _))
    show nS z n ≤ nS z (n + d) + z (n + d) * nB ^ (n + d)
    omega
/-- the value of a bare row -/
def vS (r : Nat → Int64) (n : Nat) : Int := nS (fun k => (r k).toInt) n
theorem vS_s (r : Nat → Int64) (n : Nat) : vS r (n + 1) = vS r n + (r n).toInt * nB ^ n := rfl
def dR (r : Nat → Int64) : Prop := ∀ k, k < 44 → 0 ≤ (r k).toInt ∧ (r k).toInt < 1000000000
theorem dR_u {r : Nat → Int64} {m : Nat} {x : Int64} (h : dR r) (hx : 0 ≤ x.toInt ∧ x.toInt < 1000000000) : dR (m_u r m x) := fun k hk => by
  by_cases e : k = m
  · subst e; rw [m_us]; exact hx
  · rw [m_un e]; exact h k hk
theorem vS_u {r : Nat → Int64} {m : Nat} {x : Int64} (hm : m < 44) : vS (m_u r m x) 44 = vS r 44 + (x.toInt - (r m).toInt) * nB ^ m := by
  have := nS_upd (z := fun k => (r k).toInt) (w := fun k => (m_u r m x k).toInt) (m := m) (fun k hk => by simp only [m_un hk]) (n := 44) hm
  unfold vS
  rw [this]
  simp only [m_us]
/-- a cut of the sum, where what is above is 0 -/
theorem nS_cut {z : Nat → Int} {n : Nat} : ∀ d, (∀ k, n ≤ k → k < n + d → z k = 0) → nS z (n + d) = nS z n
  | 0, _ => rfl
  | d + 1, h => by
    show nS z (n + d) + z (n + d) * nB ^ (n + d) = nS z n
    rw [nS_cut d (fun k h1 h2 => h k h1 (by omega)), h (n + d) (by omega) (by omega)]
    omega
theorem vS_cut {r : Nat → Int64} {n : Nat} (hn : n ≤ 44) (h : ∀ k, n ≤ k → k < 44 → (r k).toInt = 0) : vS r 44 = vS r n := by
  obtain ⟨d, hd⟩ : ∃ d, 44 = n + d := ⟨44 - n, by omega⟩
  unfold vS
  rw [hd]
  exact nS_cut d (fun k h1 h2 => h k h1 (by omega))
theorem vS_le {r : Nat → Int64} (h : dR r) {n : Nat} (hn : n ≤ 44) : vS r n ≤ vS r 44 := by
  obtain ⟨d, hd⟩ : ∃ d, 44 = n + d := ⟨44 - n, by omega⟩
  have e1 : nS (fun k => (r k).toInt) n = nS (fun k => if k < 44 then (r k).toInt else 0) n := nS_cong (fun k hk => (if_pos (by omega)).symm)
  have e2 : nS (fun k => (r k).toInt) 44 = nS (fun k => if k < 44 then (r k).toInt else 0) 44 := nS_cong (fun k hk => (if_pos (by omega)).symm)
  have e3 := nS_mono (z := fun k => if k < 44 then (r k).toInt else 0) (n := n) (fun k => by
    show 0 ≤ if k < 44 then (r k).toInt else 0
    split
    · rename_i q; exact (h k q).1
    · exact Int.le_refl 0) d
  rw [← hd] at e3
  unfold vS
  rw [e1, e2]
  exact e3
theorem vS_nn {r : Nat → Int64} (h : dR r) {n : Nat} (hn : n ≤ 44) : 0 ≤ vS r n := (nS_bound (z := fun k => (r k).toInt) (fun k hk => h k (by omega))).1
/-- the step of a long multiplication -/
theorem m_step {A V pi Pi S qj Pj d c c' rm P : Int} (hP : P = Pi * Pj) (h : A + c * P = V + pi * (Pi * S)) (hx : d + 1000000000 * c' = rm + pi * qj + c) : (A + (d - rm) * P) + c' * (P * 1000000000) = V + pi * (Pi * (S + qj * Pj)) := by
  have e1 : c' * (P * 1000000000) = (1000000000 * c') * P := by rw [Int.mul_comm P, ← Int.mul_assoc, Int.mul_comm c']
  have e2 : (d - rm) * P + (1000000000 * c') * P = (pi * qj + c) * P := by
    rw [← Int.add_mul]
    congr 1
    omega
  have e3 : pi * (Pi * (S + qj * Pj)) = pi * (Pi * S) + (pi * qj) * P := by
    rw [hP, Int.mul_add, Int.mul_add, ← Int.mul_assoc Pi qj Pj, Int.mul_comm Pi qj, Int.mul_assoc qj Pi Pj, ← Int.mul_assoc pi qj]
  rw [e1, e3]
  rw [Int.add_mul] at e2
  omega
theorem m_dB {x : Int64} (h : 0 ≤ x.toInt) : (x / 1000000000).toInt = x.toInt / 1000000000 ∧ (x - x / 1000000000 * 1000000000).toInt = x.toInt % 1000000000 := by
  have := (m_floor x.toInt).1 h
  exact ⟨by rw [m_divB, this.1], by rw [m_remB, this.2]⟩
theorem m_dm (z : Int) : z % 1000000000 + 1000000000 * (z / 1000000000) = z := by omega
theorem m_cell {a b d c : Int64} (ha : 0 ≤ a.toInt ∧ a.toInt < 1000000000) (hb : 0 ≤ b.toInt ∧ b.toInt < 1000000000) (hd : 0 ≤ d.toInt ∧ d.toInt < 1000000000) (hc : 0 ≤ c.toInt ∧ c.toInt < 1000000000) :
    (a + b * d + c).toInt = a.toInt + b.toInt * d.toInt + c.toInt ∧ 0 ≤ (a + b * d + c).toInt ∧ 0 ≤ (a + b * d + c).toInt / 1000000000 ∧ (a + b * d + c).toInt / 1000000000 < 1000000000 := by
  have b1 : 0 ≤ b.toInt * d.toInt ∧ b.toInt * d.toInt ≤ 999999999 * 999999999 := by
    refine ⟨Int.mul_nonneg hb.1 hd.1, ?_⟩
    have t1 : b.toInt * d.toInt ≤ 999999999 * d.toInt := Int.mul_le_mul_of_nonneg_right (by omega) hd.1
    omega
  have m1 : (b * d).toInt = b.toInt * d.toInt := fb_mulL (by omega) (by omega)
  have a1 : (a + b * d).toInt = a.toInt + b.toInt * d.toInt := by rw [fb_addL (by rw [m1]; omega) (by rw [m1]; omega), m1]
  have a2 : (a + b * d + c).toInt = a.toInt + b.toInt * d.toInt + c.toInt := by rw [fb_addL (by rw [a1]; omega) (by rw [a1]; omega), a1]
  rw [a2]
  generalize b.toInt * d.toInt = z at *
  omega
section CM5
variable {L0 : Nat} {xs : Nat → Int32} {Q : xiQ} {I : Nat → Nat → Int32} {L : Nat → Nat → Int64} {f p q r : Nat → Int64}
/-- the inner loop: left part i times right, from part j on -/
theorem c_times_in {v1 v2 v3 v4 : Int32} {i i0 j0 : Nat} (hi : i < i0) (hi0 : i0 ≤ 44) (hj0 : j0 ≤ 44) (hp : dR p) (hq : dR q) (hj0q : ∀ k, j0 ≤ k → k < 44 → (q k).toInt = 0) {V : Int} (hfit : V + (p i).toInt * (nB ^ i * vS q 44) < nB ^ 43) (hV : 0 ≤ V)
    (hQ : ∀ r', dR r' → vS r' 44 = V + (p i).toInt * (nB ^ i * vS q 44) → xi_V (xG L0 xs) 118 83 [some (Value.ref 37), some (Value.int v1), some (Value.int v2), some (Value.int v3), some (Value.int v4), some (Value.int (nI i0)), some (Value.int (nI j0)), some (Value.int (nI (i + 1))), none, none, none, none, none] [] (xSH, xRF, I, mL L f p q r') 0 0 Q) :
    ∀ (n j : Nat) (r' : Nat → Int64) (c : Int64), i + j + n = 44 → dR r' → 0 ≤ c.toInt → c.toInt < 1000000000 → vS r' 44 + c.toInt * nB ^ (i + j) = V + (p i).toInt * (nB ^ i * vS q j) →
      xi_V (xG L0 xs) 118 96 [some (Value.ref 37), some (Value.int v1), some (Value.int v2), some (Value.int v3), some (Value.int v4), some (Value.int (nI i0)), some (Value.int (nI j0)), some (Value.int (nI i)), some (Value.long c), none, some (Value.int (nI j)), none, none] [] (xSH, xRF, I, mL L f p q r') 0 0 Q
  | 0, j, r', c, hn, hr, hc0, hc1, hs => by
    have hpi := hp i (by omega)
    have hqn := vS_le hq (show j ≤ 44 by omega)
    have hq0 := vS_nn hq (show j ≤ 44 by omega)
    have hP := nB_pow i
    have hle : (p i).toInt * (nB ^ i * vS q j) ≤ (p i).toInt * (nB ^ i * vS q 44) := Int.mul_le_mul_of_nonneg_left (Int.mul_le_mul_of_nonneg_left hqn (Int.le_of_lt hP)) hpi.1
    have hij : i + j = 44 := by omega
    have h44 : nB ^ 44 = nB ^ 43 * 1000000000 := Int.pow_succ nB 43
    have h43 := nB_pow 43
    have hr0 := vS_nn hr (Nat.le_refl 44)
    rw [hij, h44] at hs
    have hc : c.toInt = 0 := by
      generalize nB ^ 43 = P at *
      rcases Int.lt_or_le c.toInt 1 with z | z
      · omega
      · have : 1 * (P * 1000000000) ≤ c.toInt * (P * 1000000000) := Int.mul_le_mul_of_nonneg_right z (by omega)
        omega
    have hqe : (p i).toInt * (nB ^ i * vS q j) = (p i).toInt * (nB ^ i * vS q 44) := by
      by_cases z : (p i).toInt = 0
      · rw [z]; simp
      · have h1 : nB ^ i * vS q 44 < nB ^ 43 := by
          have h2 : 1 * (nB ^ i * vS q 44) ≤ (p i).toInt * (nB ^ i * vS q 44) := Int.mul_le_mul_of_nonneg_right (by omega) (Int.mul_nonneg (Int.le_of_lt hP) (vS_nn hq (Nat.le_refl 44)))
          omega
        have h3 : vS q 44 = vS q j := by
          refine vS_cut (by omega) (fun k k1 k2 => ?_)
          have hk := hq k k2
          rcases Int.lt_or_le (q k).toInt 1 with z | z
          · omega
          · exfalso
            have hA : (q k).toInt * nB ^ k ≤ vS q 44 := by
              have s1 := vS_le hq (show k + 1 ≤ 44 by omega)
              have s2 := vS_nn hq (show k ≤ 44 by omega)
              have s3 := vS_s q k
              omega
            have hB : 1 * nB ^ k ≤ (q k).toInt * nB ^ k := Int.mul_le_mul_of_nonneg_right z (Int.le_of_lt (nB_pow k))
            have hC : nB ^ i * nB ^ k ≤ nB ^ i * vS q 44 := Int.mul_le_mul_of_nonneg_left (by omega) (Int.le_of_lt hP)
            rw [← nB_add] at hC
            obtain ⟨d, hd⟩ : ∃ d, i + k = 43 + d := ⟨i + k - 43, by omega⟩
            rw [hd, nB_add] at hC
            have hD : nB ^ 43 * 1 ≤ nB ^ 43 * nB ^ d := Int.mul_le_mul_of_nonneg_left (by have := nB_pow d; omega) (Int.le_of_lt h43)
            omega
        rw [h3]
    refine b_M_times_96 ⟨fun _ => ?_, fun c2 => ?_⟩
    · rw [nI_1]
      refine hQ r' hr ?_
      rw [hc] at hs
      omega
    · rw [nI_add] at c2
      exact absurd (by rw [m_44]; exact nI_le (by omega) (by omega)) c2
  | n + 1, j, r', c, hn, hr, hc0, hc1, hs => by
    have x1 : i < 44 := by clear hs hfit hV hQ; omega
    have x2 : j < 44 := by clear hs hfit hV hQ; omega
    have x3 : i + j < 44 := by clear hs hfit hV hQ; omega
    have x4 : i + (j + 1) + n = 44 := by clear hs hfit hV hQ; omega
    have hpi := hp i x1
    have hqj := hq j x2
    have hrm := hr (i + j) x3
    have go : xi_V (xG L0 xs) 118 120 [some (Value.ref 37), some (Value.int v1), some (Value.int v2), some (Value.int v3), some (Value.int v4), some (Value.int (nI i0)), some (Value.int (nI j0)), some (Value.int (nI i)), some (Value.long c), none, some (Value.int (nI j)), none, none] [] (xSH, xRF, I, mL L f p q r') 0 0 Q := by
      refine b_M_times_120 ?_
      rw [nI_add, m_k x3, m_k x1, m_k x2, mL_u49, mL_47, mL_48, mL_49, nI_1]
      have a2 := m_cell hrm hpi hqj ⟨hc0, hc1⟩
      have d := m_dB (x := r' (i + j) + p i * q j + c) a2.2.1
      refine ⟨m_v x3, m_v x1, m_v x2, by decide, m_v x3, by decide, c_times_in hi hi0 hj0 hp hq hj0q hfit hV hQ n (j + 1) _ _ x4 (dR_u hr (by rw [d.2]; exact ⟨Int.emod_nonneg _ (by decide), Int.emod_lt_of_pos _ (by decide)⟩)) (by rw [d.1]; exact a2.2.2.1) (by rw [d.1]; exact a2.2.2.2) ?_⟩
      rw [vS_u x3, d.1, d.2, a2.1, show i + (j + 1) = (i + j) + 1 from rfl, Int.pow_succ nB (i + j)]
      exact m_step (nB_add i j) hs (m_dm _)
    refine b_M_times_96 ⟨fun c2 => ?_, fun _ => ⟨fun _ => go, fun c2 => ⟨fun c3 => ?_, fun _ => go⟩⟩⟩
    · rw [nI_add] at c2
      exact absurd c2 (by rw [m_44]; exact nI_ge x3 (by decide))
    · clear go
      have hj : j0 ≤ j := by
        rcases Nat.lt_or_ge j j0 with z | z
        · exact absurd (nI_lt z (by omega)) c2
        · exact z
      have hc : c.toInt = 0 := by
        have c4 : ¬ (0 : Int64) < c := fun z => by
          have : lg_cmp c 0 = 1 := by simp [lg_cmp, z]
          rw [this] at c3
          exact absurd c3 (by decide)
        rw [Int64.lt_iff_toInt_lt, m_z0] at c4
        omega
      rw [nI_1]
      refine hQ r' hr ?_
      rw [hc, ← vS_cut (r := q) (n := j) (by omega) (fun k k1 k2 => hj0q k (by omega) k2)] at hs
      omega
end CM5
