/-! more, isBelow, isZero, turn, sign, bare, length -/
theorem m_ix43 (a : Nat) : (44 : Int32) * nI a + 44 - 1 = nI (44 * a + 43) := by
  rw [show (44 : Int32) = nI 44 from rfl, pk_mul, nI_add, show (1 : Int32) = nI 1 from rfl, pk_sub (by omega)]
  rfl
/-- a natural number as a row of parts, all from 0 to 10^9 - 1 -/
def Np (p : Nat → Int64) (v : Nat) : Prop := (∀ k, k < 44 → 0 ≤ (p k).toInt ∧ (p k).toInt < 1000000000) ∧ nS (fun k => (p k).toInt) 44 = (v : Int)
theorem Np_of {f p : Nat → Int64} {a : Nat} {v : Int} (h : Nm f a v) (hv : 0 ≤ v) (hp : ∀ k, k < 44 → p k = f (44 * a + k)) : Np p v.natAbs := by
  have hz : ∀ k, k < 44 → (p k).toInt = mZ f a k := fun k hk => by rw [hp k hk]; rfl
  refine ⟨fun k hk => ?_, ?_⟩
  · rw [hz k hk]
    by_cases e : k = 43
    · subst e
      rw [h.2.1, if_neg (by omega)]
      omega
    · exact h.1 k (by omega)
  · rw [nS_cong hz, h.2.2]
    omega
section CM3
variable {L0 : Nat} {xs : Nat → Int32} {Q : xiQ} {I : Nat → Nat → Int32} {L : Nat → Nat → Int64} {f p q r : Nat → Int64}
theorem c_more_loop {a b : Nat} (ha : a < 1067) (hb : b < 1067) (hab : a ≠ b) {w : Int64} {v : Int} (hv : ∀ k, k < 44 → -8000000000000000000 ≤ (f (44 * a + k) + f (44 * b + k) * w).toInt ∧ (f (44 * a + k) + f (44 * b + k) * w).toInt ≤ 8000000000000000000) (hs : nS (fun k => (f (44 * a + k) + f (44 * b + k) * w).toInt) 44 = v) (h1 : -(nB ^ 43) ≤ v) (h2 : v < nB ^ 43) (hQ : ∀ g, mF f g a → Nm g a v → Q none (xSH, xRF, I, mL L g p q r)) :
    ∀ (n k : Nat) (g : Nat → Int64), k + n = 44 → filI f g a k (fun i => f (44 * a + i) + f (44 * b + i) * w) → xi_V (xG L0 xs) 111 3 [some (Value.ref 37), some (Value.int (nI a)), some (Value.int (nI b)), some (Value.long w), none, some (Value.int (nI k))] [] (xSH, xRF, I, mL L g p q r) 0 0 Q
  | 0, k, g, hk, hi => by
    have : k = 44 := by omega
    subst this
    refine b_M_more_3 ⟨fun _ => d_carry ha (v := v) (fun k hk => by rw [filI_Z hi hk]; exact hv k hk) (by rw [nS_cong (fun k hk => filI_Z hi hk)]; exact hs) h1 h2 (fun g2 a1 a2 => b_M_more_50 (hQ g2 (mF_tr hi.1 a1) a2)), fun c => ?_⟩
    exact absurd (by rw [m_44]; exact nI_le (by omega) (by omega)) c
  | n + 1, k, g, hk, hi => by
    have hk2 : k < 44 := by omega
    refine b_M_more_3 ⟨fun c => absurd c (by rw [m_44]; exact nI_ge hk2 (by omega)), fun _ => ?_⟩
    rw [m_ix, m_ix, m_cl ha hk2, m_cl hb hk2, mL_u38, nI_1, mL_38]
    refine ⟨m_in ha hk2, m_in hb hk2, m_in ha hk2, c_more_loop ha hb hab hv hs h1 h2 hQ n (k + 1) _ (by omega) ?_⟩
    have hs := filI_s hi hk2
    have e : g (44 * b + k) = f (44 * b + k) := hi.1 _ (by omega)
    have e2 : g (44 * a + k) = f (44 * a + k) := hi.2.2 k (Nat.le_refl k) hk2
    rw [e, e2]
    exact hs
/-- more(a, b, w), another row: a + b * w -/
theorem c_more {a b : Nat} (ha : a < 1067) (hb : b < 1067) (hab : a ≠ b) {w : Int64} {x y : Int} (hx : Nm f a x) (hy : Nm f b y) (hw : -7000000000 ≤ w.toInt ∧ w.toInt ≤ 7000000000) (h1 : -(nB ^ 43) ≤ x + y * w.toInt) (h2 : x + y * w.toInt < nB ^ 43) (hQ : ∀ g, mF f g a → Nm g a (x + y * w.toInt) → Q none (xSH, xRF, I, mL L g p q r)) :
    xi_V (xG L0 xs) 111 0 [some (Value.ref 37), some (Value.int (nI a)), some (Value.int (nI b)), some (Value.long w), none, none] [] (xSH, xRF, I, mL L f p q r) 0 0 Q := by
  have key : ∀ k, k < 44 → (f (44 * a + k) + f (44 * b + k) * w).toInt = mZ f a k + mZ f b k * w.toInt ∧ -7000000001000000000 ≤ mZ f a k + mZ f b k * w.toInt ∧ mZ f a k + mZ f b k * w.toInt ≤ 7000000001000000000 := by
    intro k hk
    have r1 := Nm_rng hx hk
    have r2 := Nm_rng hy hk
    have e1 : (f (44 * a + k)).toInt = mZ f a k := rfl
    have e2 : (f (44 * b + k)).toInt = mZ f b k := rfl
    have b1 : -7000000000000000000 ≤ mZ f b k * w.toInt ∧ mZ f b k * w.toInt ≤ 7000000000000000000 := by
      generalize mZ f b k = s at *
      generalize w.toInt = t at *
      rcases Int.lt_or_le s 0 with c | c
      · have : s = -1 := by omega
        subst this
        omega
      · have u1 : s * t ≤ s * 7000000000 := Int.mul_le_mul_of_nonneg_left hw.2 c
        have u2 : s * (-7000000000) ≤ s * t := Int.mul_le_mul_of_nonneg_left hw.1 c
        omega
    have m1 : (f (44 * b + k) * w).toInt = mZ f b k * w.toInt := by rw [fb_mulL (by rw [e2]; omega) (by rw [e2]; omega), e2]
    refine ⟨?_, by omega, by omega⟩
    rw [fb_addL (by rw [m1, e1]; omega) (by rw [m1, e1]; omega), m1, e1]
  refine b_M_more_0 (c_more_loop ha hb hab (v := x + y * w.toInt) (fun k hk => ?_) ?_ h1 h2 hQ 44 0 f rfl filI_0)
  · have := key k hk
    omega
  · rw [nS_cong (fun k hk => (key k hk).1), nS_add, nS_mul, hx.2.2, hy.2.2]
/-- isBelow(a) -/
theorem c_isBelow {a : Nat} (ha : a < 1067) {v : Int} (hv : Nm f a v) (hQ : Q (some (Value.int (if v < 0 then 1 else 0))) (xSH, xRF, I, mL L f p q r)) :
    xi_V (xG L0 xs) 112 0 [some (Value.ref 37), some (Value.int (nI a))] [] (xSH, xRF, I, mL L f p q r) 0 0 Q := by
  refine b_M_isBelow_0 ?_
  rw [m_ix43, m_cl ha (by omega), mL_38]
  have e : (f (44 * a + 43)).toInt = if v < 0 then -1 else 0 := hv.2.1
  refine ⟨m_in ha (by omega), fun c => ⟨by decide, ?_⟩, fun c => ⟨by decide, ?_⟩⟩
  · rw [m_cmp0, m_neg0, e] at c
    have : ¬ v < 0 := fun z => by rw [if_pos z] at c; omega
    rw [if_neg this] at hQ
    exact hQ
  · rw [m_cmp0, m_neg0, e] at c
    have : v < 0 := by
      by_cases z : v < 0
      · exact z
      · rw [if_neg z] at c; omega
    rw [if_pos this] at hQ
    exact hQ
theorem c_isZero_loop {a : Nat} (ha : a < 1067) {v : Int} (hv : Nm f a v) (hQ : Q (some (Value.int (if v = 0 then 1 else 0))) (xSH, xRF, I, mL L f p q r)) :
    ∀ (n k : Nat), k + n = 44 → (∀ i, i < k → mZ f a i = 0) → xi_V (xG L0 xs) 113 2 [some (Value.ref 37), some (Value.int (nI a)), some (Value.int (nI k))] [] (xSH, xRF, I, mL L f p q r) 0 0 Q
  | 0, k, hk, hi => by
    have : k = 44 := by omega
    subst this
    rw [if_pos ((Nm_zero hv).mpr hi)] at hQ
    exact b_M_isZero_2 ⟨fun _ => ⟨by decide, hQ⟩, fun c => absurd (by rw [m_44]; exact nI_le (by omega) (by omega)) c⟩
  | n + 1, k, hk, hi => by
    have hk2 : k < 44 := by omega
    refine b_M_isZero_2 ⟨fun c => absurd c (by rw [m_44]; exact nI_ge hk2 (by omega)), fun _ => ?_⟩
    rw [m_ix, m_cl ha hk2, nI_1, mL_38]
    refine ⟨m_in ha hk2, fun c => ?_, fun c => ⟨by decide, ?_⟩⟩
    · rw [m_cmpE, m_eq0] at c
      refine c_isZero_loop ha hv hQ n (k + 1) (by omega) (fun i hi2 => ?_)
      by_cases e : i = k
      · subst e; exact c
      · exact hi i (by omega)
    · rw [m_cmpE, m_eq0] at c
      rw [if_neg (fun z => c ((Nm_zero hv).mp z k hk2))] at hQ
      exact hQ
/-- isZero(a) -/
theorem c_isZero {a : Nat} (ha : a < 1067) {v : Int} (hv : Nm f a v) (hQ : Q (some (Value.int (if v = 0 then 1 else 0))) (xSH, xRF, I, mL L f p q r)) :
    xi_V (xG L0 xs) 113 0 [some (Value.ref 37), some (Value.int (nI a)), none] [] (xSH, xRF, I, mL L f p q r) 0 0 Q :=
  b_M_isZero_0 (c_isZero_loop ha hv hQ 44 0 rfl (fun i hi => absurd hi (Nat.not_lt_zero i)))
theorem c_turn_loop {a : Nat} (ha : a < 1067) {v : Int} (hv : Nm f a v) (h1 : -(nB ^ 43) < v) (hQ : ∀ g, mF f g a → Nm g a (-v) → Q none (xSH, xRF, I, mL L g p q r)) :
    ∀ (n k : Nat) (g : Nat → Int64), k + n = 44 → filI f g a k (fun i => -f (44 * a + i)) → xi_V (xG L0 xs) 114 2 [some (Value.ref 37), some (Value.int (nI a)), some (Value.int (nI k))] [] (xSH, xRF, I, mL L g p q r) 0 0 Q
  | 0, k, g, hk, hi => by
    have : k = 44 := by omega
    subst this
    have hz : ∀ k, k < 44 → mZ g a k = mZ f a k * (-1) := fun k hk => by
      rw [filI_Z hi hk]
      have r1 := Nm_rng hv hk
      have e1 : (f (44 * a + k)).toInt = mZ f a k := rfl
      rw [Int64.toInt_neg, fb_bmodL (by rw [e1]; omega) (by rw [e1]; omega), e1]
      omega
    have hb := Nm_val hv
    refine b_M_turn_2 ⟨fun _ => d_carry ha (v := -v) (fun k hk => ?_) ?_ (by omega) (by omega) (fun g2 a1 a2 => b_M_turn_42 (hQ g2 (mF_tr hi.1 a1) a2)), fun c => ?_⟩
    · rw [hz k hk]
      have := Nm_rng hv hk
      omega
    · rw [nS_cong hz, nS_mul, hv.2.2]
      omega
    · exact absurd (by rw [m_44]; exact nI_le (by omega) (by omega)) c
  | n + 1, k, g, hk, hi => by
    have hk2 : k < 44 := by omega
    refine b_M_turn_2 ⟨fun c => absurd c (by rw [m_44]; exact nI_ge hk2 (by omega)), fun _ => ?_⟩
    rw [m_ix, m_cl ha hk2, mL_u38, nI_1, mL_38]
    refine ⟨m_in ha hk2, m_in ha hk2, c_turn_loop ha hv h1 hQ n (k + 1) _ (by omega) ?_⟩
    have hs := filI_s hi hk2
    rw [hi.2.2 k (Nat.le_refl k) hk2]
    exact hs
/-- turn(a) -/
theorem c_turn {a : Nat} (ha : a < 1067) {v : Int} (hv : Nm f a v) (h1 : -(nB ^ 43) < v) (hQ : ∀ g, mF f g a → Nm g a (-v) → Q none (xSH, xRF, I, mL L g p q r)) :
    xi_V (xG L0 xs) 114 0 [some (Value.ref 37), some (Value.int (nI a)), none] [] (xSH, xRF, I, mL L f p q r) 0 0 Q :=
  b_M_turn_0 (c_turn_loop ha hv h1 hQ 44 0 f rfl filI_0)
/-- sign(a) -/
theorem c_sign {a : Nat} (ha : a < 1067) {v : Int} (hv : Nm f a v) (hQ : Q (some (Value.int (if v = 0 then 0 else if v < 0 then -1 else 1))) (xSH, xRF, I, mL L f p q r)) :
    xi_V (xG L0 xs) 115 0 [some (Value.ref 37), some (Value.int (nI a))] [] (xSH, xRF, I, mL L f p q r) 0 0 Q := by
  refine b_M_sign_0 (c_isZero ha hv ?_)
  by_cases e : v = 0
  · rw [if_pos e] at hQ ⊢
    exact b_M_sign_5 ⟨fun c => absurd c (by decide), fun _ => hQ⟩
  · rw [if_neg e] at hQ ⊢
    refine b_M_sign_5 ⟨fun _ => c_isBelow ha hv ?_, fun c => absurd rfl c⟩
    by_cases e2 : v < 0
    · rw [if_pos e2] at hQ ⊢
      exact b_M_sign_17 ⟨fun c => absurd c (by decide), fun _ => hQ⟩
    · rw [if_neg e2] at hQ ⊢
      exact b_M_sign_17 ⟨fun _ => hQ, fun c => absurd rfl c⟩
end CM3
