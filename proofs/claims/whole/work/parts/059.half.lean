section CM8
variable {L0 : Nat} {xs : Nat → Int32} {Q : xiQ} {I : Nat → Nat → Int32} {L : Nat → Nat → Int64} {f p q r : Nat → Int64}
/-- how far half has come: parts from m on are new, below it the old ones -/
def hlfI (f g : Nat → Int64) (a m : Nat) (ρ : Int) : Prop := mF f g a ∧ (∀ i, i < m → mZ g a i = mZ f a i) ∧ (∀ i, m ≤ i → i < 44 → 0 ≤ mZ g a i ∧ mZ g a i < 1000000000) ∧ 0 ≤ ρ ∧ ρ ≤ 1 ∧ 2 * (nS (mZ g a) 44 - nS (mZ f a) m) + ρ * nB ^ m = nS (mZ f a) 44 - nS (mZ f a) m
theorem hlf_step {G F Fm P ρ d n r2 : Int} (h : 2 * (G - (Fm + d * P)) + ρ * (P * 1000000000) = F - (Fm + d * P)) (hd : 2 * n + r2 = ρ * 1000000000 + d) : 2 * ((G + (n - d) * P) - Fm) + r2 * P = F - Fm := by
  have e1 : (2 * n + r2) * P = (ρ * 1000000000 + d) * P := by rw [hd]
  rw [Int.add_mul, Int.add_mul, Int.mul_assoc 2 n P, Int.mul_assoc ρ, Int.mul_comm 1000000000 P] at e1
  rw [Int.sub_mul]
  generalize n * P = a1 at *
  generalize r2 * P = a2 at *
  generalize d * P = a3 at *
  generalize ρ * (P * 1000000000) = a4 at *
  omega
theorem c_half_loop {a : Nat} (ha : a < 1067) {v : Int} (hv : Nm f a v) (hv0 : 0 ≤ v) (hQ : ∀ g, mF f g a → Nm g a (v / 2) → Q none (xSH, xRF, I, mL L g p q r)) :
    ∀ (m : Nat) (g : Nat → Int64) (w : Int64), m ≤ 44 → hlfI f g a m w.toInt → xi_V (xG L0 xs) 122 6 [some (Value.ref 37), some (Value.int (nI a)), some (Value.long w), none, some (Value.int (dn m)), none, none] [] (xSH, xRF, I, mL L g p q r) 0 0 Q
  | 0, g, w, _, hi => by
    obtain ⟨i1, i2, i3, i4, i5, i6⟩ := hi
    refine b_M_half_6 ⟨fun _ => hQ g i1 ?_, fun c => absurd (by decide) c⟩
    rw [hv.2.2, show nS (mZ f a) 0 = 0 from rfl, show nB ^ 0 = 1 from rfl, Int.mul_one, Int.sub_zero, Int.sub_zero] at i6
    have e : nS (mZ g a) 44 = v / 2 := by
      generalize nS (mZ g a) 44 = G at *
      generalize w.toInt = ρ at *
      omega
    refine Nm_of (fun k hk => i3 k (Nat.zero_le k) (Nat.lt_succ_of_lt hk)) e ?_ ?_
    · have := nB_pow 43
      clear i6 e
      generalize nB ^ 43 = P at *
      omega
    · have hb := (Nm_val hv).2
      clear i6 e
      generalize nB ^ 43 = P at *
      omega
  | m + 1, g, w, hm, hi => by
    obtain ⟨i1, i2, i3, i4, i5, i6⟩ := hi
    have hk : m < 44 := by clear i6; omega
    have hm2 : m ≤ 44 := by clear i6; omega
    refine b_M_half_6 ⟨fun c => absurd c (nI_pos (by clear i6; omega)), fun _ => ?_⟩
    show vp_in ((44 : Int32) * nI a + nI m) 46948 ∧ _
    rw [show dn (m + 1) = nI m from rfl, m_ix, m_cl ha hk, mL_38, mL_u38, dn_s]
    have hd : 0 ≤ mZ f a m ∧ mZ f a m < 1000000000 := by
      by_cases e : m = 43
      · subst e
        rw [hv.2.1, if_neg (by clear i6; omega)]
        decide
      · exact hv.1 m (by clear i6; omega)
    have e1 : (g (44 * a + m)).toInt = mZ f a m := i2 m (Nat.lt_succ_self m)
    have m1 : (w * 1000000000).toInt = w.toInt * 1000000000 := by
      rw [fb_mulL (by rw [m_B]; clear i6; omega) (by rw [m_B]; clear i6; omega), m_B]
    have a1 : (w * 1000000000 + g (44 * a + m)).toInt = w.toInt * 1000000000 + mZ f a m := by
      rw [fb_addL (by rw [m1, e1]; clear i6; omega) (by rw [m1, e1]; clear i6; omega), m1, e1]
    have d2 := m_d2 (x := w * 1000000000 + g (44 * a + m)) (by rw [a1]; clear i6; omega)
    obtain ⟨y, ey⟩ : ∃ y : Int64, y = w * 1000000000 + g (44 * a + m) := ⟨_, rfl⟩
    rw [← ey] at a1 d2
    rw [← ey]
    suffices hh : hlfI f (m_u g (44 * a + m) (y / 2)) a m (y - y / 2 * 2).toInt from ⟨m_in ha hk, by decide, m_in ha hk, by decide, c_half_loop ha hv hv0 hQ m (m_u g (44 * a + m) (y / 2)) (y - y / 2 * 2) hm2 hh⟩
    clear ey m1
    refine ⟨mF_tr i1 (mF_u hk), fun i hi => ?_, fun i h1 h2 => ?_, ?_, ?_, ?_⟩
    · rw [mZ_un (by clear i6; omega)]
      exact i2 i (by clear i6; omega)
    · by_cases e : i = m
      · subst e
        rw [mZ_us, d2.1, a1]
        clear i6
        omega
      · rw [mZ_un e]
        exact i3 i (by clear i6; omega) h2
    · rw [d2.2, a1]; clear i6; omega
    · rw [d2.2, a1]; clear i6; omega
    · have hu : nS (mZ (m_u g (44 * a + m) (y / 2)) a) 44 = nS (mZ g a) 44 + ((w.toInt * 1000000000 + mZ f a m) / 2 - mZ f a m) * nB ^ m := by
        have := nS_upd (z := mZ g a) (w := mZ (m_u g (44 * a + m) (y / 2)) a) (m := m) (fun k hk => mZ_un hk) (n := 44) hk
        rw [this, mZ_us, d2.1, a1, i2 m (Nat.lt_succ_self m)]
      rw [hu, d2.2, a1]
      rw [show nS (mZ f a) (m + 1) = nS (mZ f a) m + mZ f a m * nB ^ m from rfl, Int.pow_succ nB m] at i6
      exact hlf_step i6 (by clear i6; omega)
/-- half(a) -/
theorem c_half {a : Nat} (ha : a < 1067) {v : Int} (hv : Nm f a v) (hv0 : 0 ≤ v) (hQ : ∀ g, mF f g a → Nm g a (v / 2) → Q none (xSH, xRF, I, mL L g p q r)) :
    xi_V (xG L0 xs) 122 0 [some (Value.ref 37), some (Value.int (nI a)), none, none, none, none, none] [] (xSH, xRF, I, mL L f p q r) 0 0 Q :=
  b_M_half_0 (c_half_loop ha hv hv0 hQ 44 f 0 (Nat.le_refl 44) ⟨mF_rf, fun _ _ => rfl, fun i h1 h2 => absurd h2 (by omega), by decide, by decide, by rw [m_z0, Int.zero_mul, Int.sub_self, Int.mul_zero]; rfl⟩)
end CM8
