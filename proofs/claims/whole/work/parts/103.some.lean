/-! a way to share out is there -/
theorem two_of {l1 h1 l2 h2 t : Nat} (a1 : l1 ≤ h1) (a2 : l2 ≤ h2) (b1 : l1 + l2 ≤ t) (b2 : t ≤ h1 + h2) : ∃ a b, l1 ≤ a ∧ a ≤ h1 ∧ l2 ≤ b ∧ b ≤ h2 ∧ a + b = t := by
  by_cases c : t - l2 ≤ h1
  · exact ⟨t - l2, l2, by omega, c, by omega, a2, by omega⟩
  · exact ⟨h1, t - h1, a1, by omega, by omega, by omega, by omega⟩
section SO
variable {D : xD} {t : Nat}
theorem stp_some {a b c : Nat} {st : yT} (h : ∃ q, st = some q) : ∃ q, stp D t a b c st = some q := by
  obtain ⟨q, rfl⟩ := h
  unfold stp
  by_cases z : slo D 3 + (a + b + c) ≤ t ∧ t ≤ hN D 3 + (a + b + c)
  · rw [if_pos z]
    by_cases w : scs D a b c (t - (a + b + c)) < q.1
    · exact ⟨_, if_pos w⟩
    · exact ⟨_, if_neg w⟩
  · rw [if_neg z]; exact ⟨q, rfl⟩
theorem stp_is {a b c : Nat} (st : yT) (z : slo D 3 + (a + b + c) ≤ t ∧ t ≤ hN D 3 + (a + b + c)) : ∃ q, stp D t a b c st = some q := by
  cases st with
  | some q => exact stp_some ⟨q, rfl⟩
  | none =>
    unfold stp
    rw [if_pos z]
    exact ⟨_, rfl⟩
theorem shC_some {a b : Nat} : ∀ (k : Nat) (st : yT), (∃ q, st = some q) → ∃ q, shC D t a b k st = some q
  | 0, _, h => h
  | k + 1, st, h => shC_some k _ (stp_some h)
theorem shB_some {a : Nat} : ∀ (k : Nat) (st : yT), (∃ q, st = some q) → ∃ q, shB D t a k st = some q
  | 0, _, h => h
  | k + 1, st, h => shB_some k _ (shC_some _ _ h)
theorem shA_some : ∀ (k : Nat) (st : yT), (∃ q, st = some q) → ∃ q, shA D t k st = some q
  | 0, _, h => h
  | k + 1, st, h => shA_some k _ (shB_some _ _ h)
theorem shC_is {a b m : Nat} (z : slo D 3 + (a + b + (slo D 2 + m)) ≤ t ∧ t ≤ hN D 3 + (a + b + (slo D 2 + m))) : ∀ (k : Nat) (st : yT), m < k → ∃ q, shC D t a b k st = some q
  | 0, _, h => absurd h (Nat.not_lt_zero _)
  | k + 1, st, h => by
    rw [shC]
    by_cases e : m = k
    · subst e; exact shC_some _ _ (stp_is st z)
    · exact shC_is z k _ (by omega)
theorem shB_is {a l m : Nat} (hm : m < nh D 2) (z : slo D 3 + (a + (slo D 1 + l) + (slo D 2 + m)) ≤ t ∧ t ≤ hN D 3 + (a + (slo D 1 + l) + (slo D 2 + m))) : ∀ (k : Nat) (st : yT), l < k → ∃ q, shB D t a k st = some q
  | 0, _, h => absurd h (Nat.not_lt_zero _)
  | k + 1, st, h => by
    rw [shB]
    by_cases e : l = k
    · subst e; exact shB_some _ _ (shC_is z _ st hm)
    · exact shB_is hm z k _ (by omega)
theorem shA_is {j l m : Nat} (hl : l < nh D 1) (hm : m < nh D 2) (z : slo D 3 + (slo D 0 + j + (slo D 1 + l) + (slo D 2 + m)) ≤ t ∧ t ≤ hN D 3 + (slo D 0 + j + (slo D 1 + l) + (slo D 2 + m))) : ∀ (k : Nat) (st : yT), j < k → ∃ q, shA D t k st = some q
  | 0, _, h => absurd h (Nat.not_lt_zero _)
  | k + 1, st, h => by
    rw [shA]
    by_cases e : j = k
    · subst e; exact shA_some _ _ (shB_is hm z _ st hl)
    · exact shA_is hl hm z k _ (by omega)
theorem hn_all (hC : okC D) : ∀ n, n ≤ qN D → hn D 0 n + hn D 1 n + hn D 2 n + hn D 3 n = n
  | 0, _ => rfl
  | n + 1, h => by
    have ih := hn_all hC n (by omega)
    have hH := (hC.2 n (by omega)).2.2.1
    rw [hn, hn, hn, hn]
    rcases (show qH D n = 0 ∨ qH D n = 1 ∨ qH D n = 2 ∨ qH D n = 3 by omega) with e | e | e | e <;> rw [e] <;> simp <;> omega
theorem sh_is (hC : okC D) (h1 : shn D 4 ≤ t) (h2 : t ≤ qN D) : ∃ q, shA D t (nh D 0) none = some q := by
  have e1 : hN D 0 + hN D 1 + hN D 2 + hN D 3 = qN D := hn_all hC _ (Nat.le_refl _)
  have e2 : shn D 4 = 0 + slo D 0 + slo D 1 + slo D 2 + slo D 3 := rfl
  have l0 := slo_le D 0
  have l1 := slo_le D 1
  have l2 := slo_le D 2
  have l3 := slo_le D 3
  have n0 := nh_e D 0
  have n1 := nh_e D 1
  have n2 := nh_e D 2
  obtain ⟨a, r, a1, a2, r1, r2, e3⟩ := two_of (l1 := slo D 0) (h1 := hN D 0) (l2 := slo D 1 + slo D 2 + slo D 3) (h2 := hN D 1 + hN D 2 + hN D 3) (t := t) l0.2 (by omega) (by omega) (by omega)
  obtain ⟨b, r', b1, b2, r3, r4, e4⟩ := two_of (l1 := slo D 1) (h1 := hN D 1) (l2 := slo D 2 + slo D 3) (h2 := hN D 2 + hN D 3) (t := r) l1.2 (by omega) (by omega) (by omega)
  obtain ⟨c, d, c1, c2, d1, d2, e5⟩ := two_of (l1 := slo D 2) (h1 := hN D 2) (l2 := slo D 3) (h2 := hN D 3) (t := r') l2.2 l3.2 (by omega) (by omega)
  refine shA_is (j := a - slo D 0) (l := b - slo D 1) (m := c - slo D 2) (by omega) (by omega) (by omega) _ _ (by omega)
end SO
