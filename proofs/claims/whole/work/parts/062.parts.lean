/-! parts(a, b): x / y -/
section PT
variable {L0 : Nat} {xs : Nat → Int32} {Q : xiQ} {I : Nat → Nat → Int32} {L : Nat → Nat → Int64} {f p q r : Nat → Int64}
theorem c_parts_zero {v1 v2 v3 v4 v5 : Int32} (hQ : ∀ r', (∀ k, k < 44 → r' k = 0) → xi_V (xG L0 xs) 119 94 [some (Value.ref 37), some (Value.int v1), some (Value.int v2), some (Value.int v3), some (Value.int v4), some (Value.int v5), some (Value.int (v5 - v4)), none, none, none, none, none, none, none, none, none] [] (xSH, xRF, I, mL L f p q r') 0 0 Q) :
    ∀ (n k : Nat) (r' : Nat → Int64), k + n = 44 → (∀ i, i < k → r' i = 0) → xi_V (xG L0 xs) 119 66 [some (Value.ref 37), some (Value.int v1), some (Value.int v2), some (Value.int v3), some (Value.int v4), some (Value.int v5), some (Value.int (nI k)), none, none, none, none, none, none, none, none, none] [] (xSH, xRF, I, mL L f p q r') 0 0 Q
  | 0, k, r', hk, hi => by
    have : k = 44 := by omega
    subst this
    exact b_M_parts_66 ⟨fun _ => hQ r' hi, fun c => absurd (by rw [m_44]; exact nI_le (by omega) (by omega)) c⟩
  | n + 1, k, r', hk, hi => by
    have hk2 : k < 44 := by omega
    refine b_M_parts_66 ⟨fun c => absurd c (by rw [m_44]; exact nI_ge hk2 (by omega)), fun _ => ?_⟩
    rw [m_k hk2, mL_u49, nI_1]
    refine ⟨m_v hk2, c_parts_zero hQ n (k + 1) _ (by omega) (fun i hi2 => ?_)⟩
    by_cases e : i = k
    · subst e; exact m_us
    · rw [m_un e]; exact hi i (by omega)
theorem c_parts_back {t : Nat} (ht : t < 1067) {v2 v4 v5 : Int32} (hQ : ∀ g, filI f g t 44 r → Q none (xSH, xRF, I, mL L g p q r)) :
    ∀ (n k : Nat) (g : Nat → Int64), k + n = 44 → filI f g t k r → xi_V (xG L0 xs) 119 266 [some (Value.ref 37), some (Value.int (nI t)), some (Value.int v2), some (Value.int ((0 : Int32))), some (Value.int v4), some (Value.int v5), some (Value.int (nI k)), none, none, none, none, none, none, none, none, none] [] (xSH, xRF, I, mL L g p q r) 0 0 Q
  | 0, k, g, hk, hi => by
    have : k = 44 := by omega
    subst this
    exact b_M_parts_266 ⟨fun _ => ⟨fun _ => b_M_parts_307 (hQ g hi), fun c => absurd rfl c⟩, fun c => absurd (by rw [m_44]; exact nI_le (by omega) (by omega)) c⟩
  | n + 1, k, g, hk, hi => by
    have hk2 : k < 44 := by omega
    refine b_M_parts_266 ⟨fun c => absurd c (by rw [m_44]; exact nI_ge hk2 (by omega)), fun _ => ?_⟩
    rw [m_ix, m_cl ht hk2, m_k hk2, mL_u38, nI_1, mL_49]
    exact ⟨m_v hk2, m_in ht hk2, c_parts_back ht hQ n (k + 1) _ (by omega) (filI_s hi hk2)⟩
theorem nB_mono {a b : Nat} (h : a ≤ b) : nB ^ a ≤ nB ^ b := by
  obtain ⟨d, rfl⟩ : ∃ d, b = a + d := ⟨b - a, by omega⟩
  rw [nB_add]
  have h1 := nB_pow d
  have h2 := nB_pow a
  have : nB ^ a * 1 ≤ nB ^ a * nB ^ d := Int.mul_le_mul_of_nonneg_left (by generalize nB ^ d = z at *; omega) (Int.le_of_lt h2)
  rw [Int.mul_one] at this
  exact this
/-- parts(a, b) -/
theorem c_parts {a b : Nat} (ha : a < 1067) (hb : b < 1067) {x y : Int} (hx : Nm f a x) (hy : Nm f b y) (hx0 : 0 ≤ x) (hy0 : 0 < y)
    (hQ : ∀ g p' q' r', mF f g a → Nm g a (x / y) → Q none (xSH, xRF, I, mL L g p' q' r')) :
    xi_V (xG L0 xs) 119 0 [some (Value.ref 37), some (Value.int (nI a)), some (Value.int (nI b)), none, none, none, none, none, none, none, none, none, none, none, none, none] [] (xSH, xRF, I, mL L f p q r) 0 0 Q := by
  have hp43 := nB_pow 43
  have hx1 : -(nB ^ 43) < x := by generalize nB ^ 43 = P at *; omega
  have hy1 : -(nB ^ 43) < y := by generalize nB ^ 43 = P at *; omega
  have hxv := Nm_val hx
  refine b_M_parts_0 (c_isBelow ha hx (b_M_parts_5 (c_isBelow hb hy (b_M_parts_10 ⟨fun _ => b_M_parts_25 (b_M_parts_26 ?_), fun c => absurd ?_ c⟩))))
  · refine c_bare47 ha hx hx1 (fun p' hp => b_M_parts_36 (c_bare48 hb hy hy1 (fun q' hq => b_M_parts_45 (c_length48 (fun j0 k1 k2 k3 => b_M_parts_52 (c_length47 (fun i0 l1 l2 l3 => b_M_parts_61 ?_)))))))
    obtain ⟨dp, ep⟩ := Np_dR hp
    obtain ⟨dq, eq⟩ := Np_dR hq
    have exn : (x.natAbs : Int) = x := by clear hxv hx1 hy1 ep eq; omega
    have eyn : (y.natAbs : Int) = y := by clear hxv hx1 hy1 ep eq; omega
    rw [exn] at ep
    rw [eyn] at eq
    have hq0 : ∀ i, j0 ≤ i → i < 44 → (q' i).toInt = 0 := fun i a1 a2 => by rw [k2 i a1 a2, m_z0]
    have hj1 : 1 ≤ j0 := by
      rcases Nat.eq_zero_or_pos j0 with z | z
      · subst z
        have := vS_cut (r := q') (n := 0) (by decide) hq0
        rw [eq, show vS q' 0 = 0 from rfl] at this
        clear hxv hx1 hy1 ep eq
        omega
      · exact z
    have hYlow : nB ^ (j0 - 1) ≤ y := by
      have h1 : 0 < (q' (j0 - 1)).toInt := by
        have := dq (j0 - 1) (by clear hxv hx1 hy1 ep eq; omega)
        have h2 : ¬ (q' (j0 - 1)).toInt = 0 := fun z => by
          rcases k3 with z2 | z2
          · clear hxv hx1 hy1 ep eq; omega
          · exact z2 (m_eq0.mpr z)
        clear hxv hx1 hy1 ep eq
        omega
      have h3 := nS_low (z := fun k => (q' k).toInt) (n := j0 - 1) (fun k hk => (dq k (by clear hxv hx1 hy1 ep eq; omega)).1) h1
      rw [show j0 - 1 + 1 = j0 by omega] at h3
      rw [← eq, vS_cut k1 hq0]
      exact h3
    have hXup : x < nB ^ i0 := by
      rw [← ep, vS_cut l1 (fun i a1 a2 => by rw [l2 i a1 a2, m_z0])]
      exact (nS_bound (z := fun k => (p' k).toInt) (fun k hk => dp k (by clear hxv hx1 hy1 ep eq hYlow; omega))).2
    have back : ∀ p2 r2, dR r2 → vS r2 44 = x / y → xi_V (xG L0 xs) 119 266 [some (Value.ref 37), some (Value.int (nI a)), some (Value.int (nI b)), some (Value.int ((0 : Int32))), some (Value.int (nI j0)), some (Value.int (nI i0)), some (Value.int ((0 : Int32))), none, none, none, none, none, none, none, none, none] [] (xSH, xRF, I, mL L f p2 q' r2) 0 0 Q := by
      intro p2 r2 d2 e2
      have hle : x / y ≤ x := Int.ediv_le_self _ hx0
      refine c_parts_back ha (fun g hg => hQ g _ _ _ hg.1 (Nm_dR hg d2 e2 (Int.ediv_nonneg hx0 (Int.le_of_lt hy0)) (Int.lt_of_le_of_lt hle hxv.2))) 44 0 f rfl filI_0
    refine c_parts_zero (fun r' hr' => ?_) 44 0 _ rfl (fun i hi => absurd hi (Nat.not_lt_zero i))
    have dr : dR r' := fun k hk => by rw [hr' k hk, m_z0]; decide
    have er : vS r' 44 = 0 := by
      unfold vS
      rw [nS_cong (w := fun _ => 0) (fun k hk => by rw [hr' k hk, m_z0])]
      exact nS_zero 44
    rcases Nat.lt_or_ge i0 j0 with z | z
    · have hq : x / y = 0 := Int.ediv_eq_zero_of_lt hx0 (Int.lt_of_lt_of_le hXup (Int.le_trans (nB_mono (by clear hxv hx1 hy1 ep eq hYlow hXup; omega)) hYlow))
      refine b_M_parts_94 ⟨fun _ => back p' r' dr (by rw [er, hq]), fun c => absurd ?_ c⟩
      exact pk_sneg (by clear hxv hx1 hy1 ep eq hYlow hXup; omega) z
    · rw [pk_sub z, show nI (i0 - j0) = dn (i0 - j0 + 1) from rfl]
      refine c_parts_out k1 hj1 dq hq0 eq.symm hy0 (Int.lt_of_lt_of_le hXup (nB_mono l1)) back (i0 - j0 + 1) p' r' (Or.inr (by clear hxv hx1 hy1 ep eq hYlow hXup; omega)) dp dr (fun i hi => hr' i (by clear hxv hx1 hy1 ep eq hYlow hXup; omega)) (by rw [er, ep, Int.zero_mul, Int.add_zero]) ?_
      rw [ep]
      refine Int.lt_of_lt_of_le hXup ?_
      rw [show i0 = (i0 - j0 + 1) + (j0 - 1) by omega, nB_add, show (i0 - j0 + 1) + (j0 - 1) - j0 + 1 = i0 - j0 + 1 by omega]
      exact Int.mul_le_mul_of_nonneg_left hYlow (Int.le_of_lt (nB_pow _))
  · rw [if_neg (show ¬ x < 0 by clear hxv hx1 hy1; omega), if_neg (show ¬ y < 0 by clear hxv hx1 hy1; omega)]
end PT
