/-! goesInto -/
/-- what is left of the parts from up on, part by part, if t times right goes off -/
def gZ (p q : Nat → Int64) (t : Int) (up k : Nat) : Int := (p (k + up)).toInt - t * (q k).toInt
theorem nC_sgn {z : Nat → Int} {n : Nat} (h : nC z n ≤ 0) : nC z n = 0 ↔ 0 ≤ nS z n := by
  have e := nC_sum z n
  have b := nS_bound (n := n) (fun k _ => nD_rng z k)
  have hp := nB_pow n
  generalize nB ^ n = P at *
  generalize nS (nD z) n = D at *
  generalize nS z n = S at *
  generalize nC z n = c at *
  constructor
  · intro h0; subst h0; omega
  · intro h0
    rcases Int.lt_or_le c 0 with q | q
    · have : c * P ≤ (-1) * P := Int.mul_le_mul_of_nonneg_right (by omega) (Int.le_of_lt hp)
      omega
    · omega
theorem nC_stay {z : Nat → Int} {j : Nat} (h0 : nC z j = 0) : ∀ d, (∀ k, j ≤ k → k < j + d → 0 ≤ z k ∧ z k < 1000000000) → nC z (j + d) = 0
  | 0, _ => h0
  | d + 1, h => by
    have ih := nC_stay h0 d (fun k h1 h2 => h k h1 (by omega))
    have := h (j + d) (by omega) (by omega)
    show (z (j + d) + nC z (j + d)) / 1000000000 = 0
    rw [ih]
    omega
theorem g_cell {a b t c : Int64} (ha : 0 ≤ a.toInt ∧ a.toInt < 1000000000) (hb : 0 ≤ b.toInt ∧ b.toInt < 1000000000) (ht : 0 ≤ t.toInt ∧ t.toInt < 1000000000) {x : Int} (hc : c.toInt = -x) (hx : -999999999 ≤ x ∧ x ≤ 0) :
    (a - t * b - c).toInt = (a.toInt - t.toInt * b.toInt) + x ∧ -999999999 ≤ ((a.toInt - t.toInt * b.toInt) + x) / 1000000000 ∧ ((a.toInt - t.toInt * b.toInt) + x) / 1000000000 ≤ 0 := by
  have b1 : 0 ≤ t.toInt * b.toInt ∧ t.toInt * b.toInt ≤ 999999999 * 999999999 := by
    refine ⟨Int.mul_nonneg ht.1 hb.1, ?_⟩
    have t1 : t.toInt * b.toInt ≤ 999999999 * b.toInt := Int.mul_le_mul_of_nonneg_right (by omega) hb.1
    omega
  have m1 : (t * b).toInt = t.toInt * b.toInt := fb_mulL (by omega) (by omega)
  have a1 : (a - t * b).toInt = a.toInt - t.toInt * b.toInt := by rw [fb_subL (by rw [m1]; omega) (by rw [m1]; omega), m1]
  have a2 : (a - t * b - c).toInt = (a.toInt - t.toInt * b.toInt) + x := by
    rw [fb_subL (by rw [a1]; omega) (by rw [a1]; omega), a1]
    omega
  refine ⟨a2, ?_⟩
  generalize t.toInt * b.toInt = z at *
  omega
section CM9
variable {L0 : Nat} {xs : Nat → Int32} {Q : xiQ} {I : Nat → Nat → Int32} {L : Nat → Nat → Int64} {f p q r : Nat → Int64}
theorem c_goes_end {t w : Int64} {v3 v4 v7 : Int32} {c : Int} (hw : w.toInt = -c) (hQ : Q (some (Value.int (if c = 0 then 1 else 0))) (xSH, xRF, I, mL L f p q r)) :
    xi_V (xG L0 xs) 120 70 [some (Value.ref 37), some (Value.long t), none, some (Value.int v3), some (Value.int v4), some (Value.long w), none, some (Value.int v7), none, none] [] (xSH, xRF, I, mL L f p q r) 0 0 Q := by
  refine b_M_goesInto_70 ⟨fun c1 => ⟨by decide, ?_⟩, fun c1 => ⟨by decide, ?_⟩⟩
  · rw [m_cmpE, m_eq0, hw] at c1
    rw [if_neg (by omega)] at hQ
    exact hQ
  · rw [m_cmpE, m_eq0, hw] at c1
    rw [if_pos (by omega)] at hQ
    exact hQ
theorem c_goes_loop {t : Int64} {up j0 : Nat} (hup : up ≤ 44) (hj0 : j0 ≤ 44) (hp : dR p) (hq : dR q) (hj0q : ∀ k, j0 ≤ k → k < 44 → (q k).toInt = 0) (ht : 0 ≤ t.toInt ∧ t.toInt < 1000000000)
    (hQ : Q (some (Value.int (if nC (gZ p q t.toInt up) (44 - up) = 0 then 1 else 0))) (xSH, xRF, I, mL L f p q r)) :
    ∀ (n j : Nat) (w : Int64), j + up + n = 44 → w.toInt = -nC (gZ p q t.toInt up) j → -999999999 ≤ nC (gZ p q t.toInt up) j → nC (gZ p q t.toInt up) j ≤ 0 →
      xi_V (xG L0 xs) 120 6 [some (Value.ref 37), some (Value.long t), none, some (Value.int (nI up)), some (Value.int (nI j0)), some (Value.long w), none, some (Value.int (nI j)), none, none] [] (xSH, xRF, I, mL L f p q r) 0 0 Q
  | 0, j, w, hn, hw, h1, h2 => by
    have e : 44 - up = j := by omega
    rw [e] at hQ
    refine b_M_goesInto_6 ⟨fun _ => c_goes_end hw hQ, fun c => ?_⟩
    rw [nI_add] at c
    exact absurd (by rw [m_44]; exact nI_le (by omega) (by omega)) c
  | n + 1, j, w, hn, hw, h1, h2 => by
    have x1 : j + up < 44 := by omega
    have x2 : j < 44 := by omega
    have go : xi_V (xG L0 xs) 120 29 [some (Value.ref 37), some (Value.long t), none, some (Value.int (nI up)), some (Value.int (nI j0)), some (Value.long w), none, some (Value.int (nI j)), none, none] [] (xSH, xRF, I, mL L f p q r) 0 0 Q := by
      refine b_M_goesInto_29 ?_
      rw [nI_add, m_k x1, m_k x2, mL_47, mL_48]
      have a2 := g_cell (hp (j + up) x1) (hq j x2) ht hw ⟨h1, h2⟩
      refine ⟨m_v x1, m_v x2, c_floorDivL fun s hs => b_M_goesInto_61 ?_⟩
      rw [nI_1]
      rw [a2.1] at hs
      have hs2 : s.toInt = nC (gZ p q t.toInt up) (j + 1) := hs
      have e1 : (-s).toInt = -nC (gZ p q t.toInt up) (j + 1) := by
        rw [Int64.toInt_neg, fb_bmodL (by rw [hs]; omega) (by rw [hs]; omega), hs2]
      exact c_goes_loop hup hj0 hp hq hj0q ht hQ n (j + 1) (-s) (by omega) e1 (by rw [← hs2, hs]; exact a2.2.1) (by rw [← hs2, hs]; exact a2.2.2)
    refine b_M_goesInto_6 ⟨fun c => ?_, fun _ => ⟨fun _ => go, fun c2 => ⟨fun c3 => ?_, fun _ => go⟩⟩⟩
    · rw [nI_add] at c
      exact absurd c (by rw [m_44]; exact nI_ge x1 (by decide))
    · clear go
      have hj : j0 ≤ j := by
        rcases Nat.lt_or_ge j j0 with z | z
        · exact absurd (nI_lt z (by omega)) c2
        · exact z
      rw [m_cmpE, m_eq0, hw] at c3
      have hc : nC (gZ p q t.toInt up) j = 0 := by omega
      refine c_goes_end hw ?_
      have st := nC_stay hc (44 - up - j) (fun k k1 k2 => by
        unfold gZ
        rw [hj0q k (by omega) (by omega), Int.mul_zero, Int.sub_zero]
        exact hp _ (by omega))
      rw [show j + (44 - up - j) = 44 - up by omega] at st
      rw [if_pos st] at hQ
      rw [if_pos hc]
      exact hQ
/-- goesInto(t, up, j0) -/
theorem c_goes {t : Int64} {up j0 : Nat} (hup : up ≤ 44) (hj0 : j0 ≤ 44) (hp : dR p) (hq : dR q) (hj0q : ∀ k, j0 ≤ k → k < 44 → (q k).toInt = 0) (ht : 0 ≤ t.toInt ∧ t.toInt < 1000000000)
    (hQ : Q (some (Value.int (if nC (gZ p q t.toInt up) (44 - up) = 0 then 1 else 0))) (xSH, xRF, I, mL L f p q r)) :
    xi_V (xG L0 xs) 120 0 [some (Value.ref 37), some (Value.long t), none, some (Value.int (nI up)), some (Value.int (nI j0)), none, none, none, none, none] [] (xSH, xRF, I, mL L f p q r) 0 0 Q :=
  b_M_goesInto_0 (c_goes_loop hup hj0 hp hq hj0q ht hQ (44 - up) 0 0 (by omega) (show (0 : Int64).toInt = -(0 : Int) by decide) (show (-999999999 : Int) ≤ 0 by decide) (show (0 : Int) ≤ 0 by decide))
end CM9
