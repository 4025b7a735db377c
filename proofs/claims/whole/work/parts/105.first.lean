/-! the first state keeps both promises -/
def y0 : xD := (1, fun _ => 0, fun _ => 1, fun _ => 0, fun _ => 0, 0, 1, fun _ => 0)
def ySl : xL := fun _ => (0, 0, fun _ => 0)
theorem y0_ok : okD y0 := by
  refine ⟨⟨by decide, fun i hi => ⟨show (-100 : Int) ≤ 0 ∧ (0 : Int) ≤ 100 by decide, show 1 ≤ 1 ∧ 1 ≤ 50 by decide, show 0 ≤ 3 by decide, show 0 ≤ 100 by decide⟩⟩, by decide, by decide, fun h => absurd h (by decide), fun h hh => Nat.zero_le _, fun h => absurd h (by decide)⟩
theorem y_i1 : yI 5 0 = nI 1 ∧ yI 6 0 = zI 0 ∧ yI 7 0 = nI 1 ∧ yI 8 0 = nI 0 ∧ yI 10 0 = nI 0 ∧ yI 10 1 = nI 1 ∧ yI 14 0 = zI 0 ∧ yI 10 3 = 1 := by decide +kernel
theorem y_i2 : ∀ h : Fin 4, yI 9 h.val = nI (if h.val = 0 then 1 else 0) ∧ yI 11 h.val = nI 0 ∧ yI 46 h.val = nI 0 := by decide +kernel
theorem y_i3 : ∀ s : Fin 8, yI 4 s.val = zI (-1) ∧ yI 39 s.val = nI 0 := by decide +kernel
theorem y_i4 : yI 37 5 = nI 1 ∧ yI 42 0 = zI 0 ∧ yI 43 0 = nI 1 ∧ yI 44 0 = nI 0 ∧ yI 45 0 = nI 0 ∧ yI 37 11 = nI 0 ∧ yI 37 12 = nI 1 ∧ yI 37 1 = 0 := by decide +kernel
theorem y_l1 : ∀ k : Fin 20, (0 ≤ (yL 16 k.val).toInt ∧ (yL 16 k.val).toInt < 1000000000) ∧ 0 ≤ (yL 18 k.val).toInt ∧ (yL 18 k.val).toInt < 1000000000 := by decide +kernel
theorem y_l2 : vS (yL 16) 20 = 0 ∧ vS (yL 18) 20 = 1 := by decide +kernel
theorem y_hS : ∀ h, hS y0 h (qN y0) = if h = 0 then 1 else 0 := by
  intro h
  show 0 + (if 0 = h then 2 ^ 0 else 0) = _
  by_cases e : h = 0
  · rw [if_pos e, if_pos e.symm]
  · rw [if_neg e, if_neg (fun z => e z.symm)]
theorem y_kR {L : Nat → Nat → Int64} (hL : ∀ a, a < 37 → L a = yL a) : kR yI L y0 ySl 0 1 := by
  obtain ⟨a1, a2, a3, a4, a5, a6, a7, a8⟩ := y_i1
  refine ⟨y0_ok, ⟨a1, fun i hi => ?_, fun h hh => ?_⟩, ⟨a5, a6, fun h hh => (y_i2 ⟨h, hh⟩).2.1⟩, fun s hs => ⟨show 0 ≤ 61 by decide, (y_i3 ⟨s, hs⟩).1, fun e => absurd rfl e⟩, ⟨a7, ?_, ?_, by decide⟩, fun e => ?_⟩
  · have : i = 0 := Nat.lt_one_iff.mp hi
    subst this
    exact ⟨a2, a3, a4⟩
  · rw [y_hS]
    exact (y_i2 ⟨h, hh⟩).1
  · rw [hL 16 (by decide)]
    exact ⟨fun k hk => (y_l1 ⟨k, hk⟩).1, y_l2.1⟩
  · rw [hL 18 (by decide)]
    exact ⟨fun k hk => (y_l1 ⟨k, hk⟩).2, y_l2.2⟩
  · rw [a8] at e
    exact absurd e (by decide)
theorem y_mR {L : Nat → Nat → Int64} (h0 : Nm (L 38) 0 0) (h1 : Nm (L 38) 1 1) : mR yI L y0 ySl 0 1 := by
  obtain ⟨a1, a2, a3, a4, a5, a6, a7, a8⟩ := y_i4
  refine ⟨y0_ok, ⟨a1, fun i hi => ?_⟩, ⟨a6, a7, fun h hh => (y_i2 ⟨h, hh⟩).2.2⟩, fun s hs => ⟨show 0 ≤ 61 by decide, (y_i3 ⟨s, hs⟩).2, fun e => absurd rfl e⟩, h0, h1, fun e => absurd a8 e⟩
  have : i = 0 := Nat.lt_one_iff.mp hi
  subst this
  exact ⟨a2, a3, a4, a5⟩
theorem y_start {L0 : Nat} {xs : Nat → Int32} {Q : xiQ} (h : ∀ (I : Nat → Nat → Int32) (L : Nat → Nat → Int64), kR I L y0 ySl 0 1 → mR I L y0 ySl 0 1 → xi_V (xG L0 xs) 173 18 [some (Value.ref 1000000), some (Value.ref 0), some (Value.ref 37), some (Value.int (nI 0))] [] (xSH, xRF, I, L) 53 49788 Q) :
    xi_V (xG L0 xs) 173 0 [some (Value.ref 1000000), none, none, none] [] ([], fun _ _ => 0, fun _ _ => 0, fun _ _ => 0) 0 0 Q :=
  y_law (fun g g2 f1 n1 f2 n2 => h yI _ (y_kR (fun a ha => mL_o (by omega))) (y_mR (mF_Nm f2 (by decide) n1) n2))
