/-! bare and length -/
theorem m_v {k : Nat} (hk : k < 44) : vp_in (nI k) 44 := vp_in_nI hk (by omega)
theorem m_k {k : Nat} (hk : k < 44) : (nI k).toNatClampNeg = k := nI_clamp (by omega)
/-- two rows that stand for one number are one -/
theorem Nm_same {f g : Nat → Int64} {a : Nat} {v : Int} (h : Nm f a v) (hm : mF f g a) (h2 : Nm g a v) : g = f := by
  funext j
  by_cases e : j < 44 * a ∨ 44 * a + 44 ≤ j
  · exact hm j e
  · obtain ⟨k, rfl⟩ : ∃ k, j = 44 * a + k := ⟨j - 44 * a, by omega⟩
    exact Int64.toInt_inj.mp (Nm_uniq h2 h (show k < 44 by omega))
section CM4
variable {L0 : Nat} {xs : Nat → Int32} {Q : xiQ} {I : Nat → Nat → Int32} {L : Nat → Nat → Int64} {f p q r : Nat → Int64}
theorem c_bare47_loop {a : Nat} (ha : a < 1067) {b : Int32} {g : Nat → Int64} (hQ : ∀ p', (∀ k, k < 44 → p' k = g (44 * a + k)) → (b = 0 → Q none (xSH, xRF, I, mL L g p' q r)) ∧ (¬ b = 0 → xi_V (xG L0 xs) 114 0 [some (Value.ref 37), some (Value.int (nI a)), none] [] (xSH, xRF, I, mL L g p' q r) 0 0 (fun o σ' => xi_V (xG L0 xs) 116 56 [some (Value.ref 37), some (Value.int (nI a)), some (Value.ref 47), some (Value.int b), some (Value.int (nI 44))] (o.toList ++ []) σ' 0 0 Q))) :
    ∀ (n k : Nat) (p' : Nat → Int64), k + n = 44 → (∀ i, i < k → p' i = g (44 * a + i)) → xi_V (xG L0 xs) 116 18 [some (Value.ref 37), some (Value.int (nI a)), some (Value.ref 47), some (Value.int b), some (Value.int (nI k))] [] (xSH, xRF, I, mL L g p' q r) 0 0 Q
  | 0, k, p', hk, hi => by
    have : k = 44 := by omega
    subst this
    exact b_M_bare_18 (Or.inl rfl) ⟨fun _ => ⟨fun c => b_M_bare_56 (Or.inl rfl) ((hQ p' hi).1 c), fun c => (hQ p' hi).2 c⟩, fun c => absurd (by rw [m_44]; exact nI_le (by omega) (by omega)) c⟩
  | n + 1, k, p', hk, hi => by
    have hk2 : k < 44 := by omega
    refine b_M_bare_18 (Or.inl rfl) ⟨fun c => absurd c (by rw [m_44]; exact nI_ge hk2 (by omega)), fun _ => ?_⟩
    rw [m_ix, m_cl ha hk2, m_k hk2, mL_u47, nI_1, mL_38]
    refine ⟨m_in ha hk2, m_v hk2, c_bare47_loop ha hQ n (k + 1) _ (by omega) (fun i hi2 => ?_)⟩
    by_cases e : i = k
    · subst e; exact m_us
    · rw [m_un e]; exact hi i (by omega)
/-- bare(a, cell 47): the parts of |v|; the row itself stays -/
theorem c_bare47 {a : Nat} (ha : a < 1067) {v : Int} (hv : Nm f a v) (h1 : -(nB ^ 43) < v) (hQ : ∀ p', Np p' v.natAbs → Q none (xSH, xRF, I, mL L f p' q r)) :
    xi_V (xG L0 xs) 116 0 [some (Value.ref 37), some (Value.int (nI a)), some (Value.ref 47), none, none] [] (xSH, xRF, I, mL L f p q r) 0 0 Q := by
  refine b_M_bare_0 (Or.inl rfl) (c_isBelow ha hv ?_)
  by_cases e : v < 0
  · rw [if_pos e]
    refine b_M_bare_5 (Or.inl rfl) ⟨fun c => absurd c (by decide), fun _ => c_turn ha hv h1 (fun g m1 n1 => ?_)⟩
    refine b_M_bare_15 (Or.inl rfl) (c_bare47_loop ha (fun p' hp => ⟨fun c => absurd c (by decide), fun _ => ?_⟩) 44 0 _ rfl (fun i hi => absurd hi (Nat.not_lt_zero i)))
    refine c_turn ha n1 (by have := nB_pow 43; omega) (fun g2 m2 n2 => b_M_bare_56 (Or.inl rfl) ?_)
    rw [Int.neg_neg] at n2
    rw [Nm_same hv (mF_tr m1 m2) n2]
    have := Np_of n1 (by omega) hp
    rw [Int.natAbs_neg] at this
    exact hQ p' this
  · rw [if_neg e]
    refine b_M_bare_5 (Or.inl rfl) ⟨fun _ => b_M_bare_15 (Or.inl rfl) (c_bare47_loop ha (fun p' hp => ⟨fun _ => hQ p' (Np_of hv (by omega) hp), fun c => absurd rfl c⟩) 44 0 _ rfl (fun i hi => absurd hi (Nat.not_lt_zero i))), fun c => absurd rfl c⟩
theorem c_length47_loop (hQ : ∀ n, n ≤ 44 → (∀ k, n ≤ k → k < 44 → p k = 0) → (n = 0 ∨ ¬ p (n - 1) = 0) → Q (some (Value.int (nI n))) (xSH, xRF, I, mL L f p q r)) :
    ∀ n, n ≤ 44 → (∀ k, n ≤ k → k < 44 → p k = 0) → xi_V (xG L0 xs) 117 3 [some (Value.ref 47), some (Value.int (nI n))] [] (xSH, xRF, I, mL L f p q r) 0 0 Q
  | 0, _, h => b_M_length_3 (Or.inl rfl) ⟨fun _ => hQ 0 (by omega) h (Or.inl rfl), fun c => absurd (by decide) c⟩
  | n + 1, hn, h => by
    refine b_M_length_3 (Or.inl rfl) ⟨fun c => absurd c (nI_nle (by omega) (by omega)), fun _ => ?_⟩
    rw [nI_pred, m_k (by omega), mL_47, pk_m1]
    refine ⟨m_v (by omega), fun c => ?_, fun c => ?_⟩
    · rw [m_cmpE] at c
      exact hQ (n + 1) hn h (Or.inr c)
    · rw [m_cmpE] at c
      refine c_length47_loop hQ n (by omega) (fun k h1 h2 => ?_)
      by_cases e : k = n
      · subst e; exact c
      · exact h k (by omega) h2
/-- length of cell 47 -/
theorem c_length47 (hQ : ∀ n, n ≤ 44 → (∀ k, n ≤ k → k < 44 → p k = 0) → (n = 0 ∨ ¬ p (n - 1) = 0) → Q (some (Value.int (nI n))) (xSH, xRF, I, mL L f p q r)) :
    xi_V (xG L0 xs) 117 0 [some (Value.ref 47), none] [] (xSH, xRF, I, mL L f p q r) 0 0 Q :=
  b_M_length_0 (Or.inl rfl) (c_length47_loop hQ 44 (by omega) (fun k h1 h2 => by omega))
theorem c_bare48_loop {a : Nat} (ha : a < 1067) {b : Int32} {g : Nat → Int64} (hQ : ∀ p', (∀ k, k < 44 → p' k = g (44 * a + k)) → (b = 0 → Q none (xSH, xRF, I, mL L g p p' r)) ∧ (¬ b = 0 → xi_V (xG L0 xs) 114 0 [some (Value.ref 37), some (Value.int (nI a)), none] [] (xSH, xRF, I, mL L g p p' r) 0 0 (fun o σ' => xi_V (xG L0 xs) 116 56 [some (Value.ref 37), some (Value.int (nI a)), some (Value.ref 48), some (Value.int b), some (Value.int (nI 44))] (o.toList ++ []) σ' 0 0 Q))) :
    ∀ (n k : Nat) (p' : Nat → Int64), k + n = 44 → (∀ i, i < k → p' i = g (44 * a + i)) → xi_V (xG L0 xs) 116 18 [some (Value.ref 37), some (Value.int (nI a)), some (Value.ref 48), some (Value.int b), some (Value.int (nI k))] [] (xSH, xRF, I, mL L g p p' r) 0 0 Q
  | 0, k, p', hk, hi => by
    have : k = 44 := by omega
    subst this
    exact b_M_bare_18 (Or.inr rfl) ⟨fun _ => ⟨fun c => b_M_bare_56 (Or.inr rfl) ((hQ p' hi).1 c), fun c => (hQ p' hi).2 c⟩, fun c => absurd (by rw [m_44]; exact nI_le (by omega) (by omega)) c⟩
  | n + 1, k, p', hk, hi => by
    have hk2 : k < 44 := by omega
    refine b_M_bare_18 (Or.inr rfl) ⟨fun c => absurd c (by rw [m_44]; exact nI_ge hk2 (by omega)), fun _ => ?_⟩
    rw [m_ix, m_cl ha hk2, m_k hk2, mL_u48, nI_1, mL_38]
    refine ⟨m_in ha hk2, m_v hk2, c_bare48_loop ha hQ n (k + 1) _ (by omega) (fun i hi2 => ?_)⟩
    by_cases e : i = k
    · subst e; exact m_us
    · rw [m_un e]; exact hi i (by omega)
/-- bare(a, cell 48): the parts of |v|; the row itself stays -/
theorem c_bare48 {a : Nat} (ha : a < 1067) {v : Int} (hv : Nm f a v) (h1 : -(nB ^ 43) < v) (hQ : ∀ p', Np p' v.natAbs → Q none (xSH, xRF, I, mL L f p p' r)) :
    xi_V (xG L0 xs) 116 0 [some (Value.ref 37), some (Value.int (nI a)), some (Value.ref 48), none, none] [] (xSH, xRF, I, mL L f p q r) 0 0 Q := by
  refine b_M_bare_0 (Or.inr rfl) (c_isBelow ha hv ?_)
  by_cases e : v < 0
  · rw [if_pos e]
    refine b_M_bare_5 (Or.inr rfl) ⟨fun c => absurd c (by decide), fun _ => c_turn ha hv h1 (fun g m1 n1 => ?_)⟩
    refine b_M_bare_15 (Or.inr rfl) (c_bare48_loop ha (fun p' hp => ⟨fun c => absurd c (by decide), fun _ => ?_⟩) 44 0 _ rfl (fun i hi => absurd hi (Nat.not_lt_zero i)))
    refine c_turn ha n1 (by have := nB_pow 43; omega) (fun g2 m2 n2 => b_M_bare_56 (Or.inr rfl) ?_)
    rw [Int.neg_neg] at n2
    rw [Nm_same hv (mF_tr m1 m2) n2]
    have := Np_of n1 (by omega) hp
    rw [Int.natAbs_neg] at this
    exact hQ p' this
  · rw [if_neg e]
    refine b_M_bare_5 (Or.inr rfl) ⟨fun _ => b_M_bare_15 (Or.inr rfl) (c_bare48_loop ha (fun p' hp => ⟨fun _ => hQ p' (Np_of hv (by omega) hp), fun c => absurd rfl c⟩) 44 0 _ rfl (fun i hi => absurd hi (Nat.not_lt_zero i))), fun c => absurd rfl c⟩
theorem c_length48_loop (hQ : ∀ n, n ≤ 44 → (∀ k, n ≤ k → k < 44 → q k = 0) → (n = 0 ∨ ¬ q (n - 1) = 0) → Q (some (Value.int (nI n))) (xSH, xRF, I, mL L f p q r)) :
    ∀ n, n ≤ 44 → (∀ k, n ≤ k → k < 44 → q k = 0) → xi_V (xG L0 xs) 117 3 [some (Value.ref 48), some (Value.int (nI n))] [] (xSH, xRF, I, mL L f p q r) 0 0 Q
  | 0, _, h => b_M_length_3 (Or.inr rfl) ⟨fun _ => hQ 0 (by omega) h (Or.inl rfl), fun c => absurd (by decide) c⟩
  | n + 1, hn, h => by
    refine b_M_length_3 (Or.inr rfl) ⟨fun c => absurd c (nI_nle (by omega) (by omega)), fun _ => ?_⟩
    rw [nI_pred, m_k (by omega), mL_48, pk_m1]
    refine ⟨m_v (by omega), fun c => ?_, fun c => ?_⟩
    · rw [m_cmpE] at c
      exact hQ (n + 1) hn h (Or.inr c)
    · rw [m_cmpE] at c
      refine c_length48_loop hQ n (by omega) (fun k h1 h2 => ?_)
      by_cases e : k = n
      · subst e; exact c
      · exact h k (by omega) h2
/-- length of cell 48 -/
theorem c_length48 (hQ : ∀ n, n ≤ 44 → (∀ k, n ≤ k → k < 44 → q k = 0) → (n = 0 ∨ ¬ q (n - 1) = 0) → Q (some (Value.int (nI n))) (xSH, xRF, I, mL L f p q r)) :
    xi_V (xG L0 xs) 117 0 [some (Value.ref 48), none] [] (xSH, xRF, I, mL L f p q r) 0 0 Q :=
  b_M_length_0 (Or.inr rfl) (c_length48_loop hQ 44 (by omega) (fun k h1 h2 => by omega))
end CM4
