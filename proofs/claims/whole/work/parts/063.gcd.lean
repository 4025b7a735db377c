/-! result(a, b): lowest terms, by halving -/
theorem gcd_hf {a b g : Nat} (hg : g % 2 = 1) (h : Nat.gcd a b = g) (ha : a % 2 = 0) : Nat.gcd (a / 2) b = g := by
  have e : a = 2 * (a / 2) := by omega
  have hc : Nat.Coprime g 2 := by
    unfold Nat.Coprime
    rw [Nat.gcd_comm, Nat.gcd_rec, hg]
    decide
  refine Nat.dvd_antisymm ?_ ?_
  · rw [← h]
    refine Nat.dvd_gcd (Nat.dvd_trans (Nat.gcd_dvd_left (a / 2) b) ?_) (Nat.gcd_dvd_right _ _)
    exact ⟨2, by omega⟩
  · have h1 : g ∣ a := by rw [← h]; exact Nat.gcd_dvd_left a b
    have h2 : g ∣ b := by rw [← h]; exact Nat.gcd_dvd_right a b
    rw [e] at h1
    exact Nat.dvd_gcd (hc.dvd_of_dvd_mul_left h1) h2
theorem gcd_hf2 {a b g : Nat} (hg : g % 2 = 1) (h : Nat.gcd a b = g) (hb : b % 2 = 0) : Nat.gcd a (b / 2) = g := by
  rw [Nat.gcd_comm] at h ⊢
  exact gcd_hf hg h hb
/-- what stays, but for the rows S -/
def mK (S : Nat → Prop) (f g : Nat → Int64) : Prop := ∀ b v, ¬ S b → Nm f b v → Nm g b v
theorem mK_rf {S : Nat → Prop} {f : Nat → Int64} : mK S f f := fun _ _ _ h => h
theorem mK_tr {S : Nat → Prop} {f g h : Nat → Int64} (h1 : mK S f g) (h2 : mK S g h) : mK S f h := fun b v hb hN => h2 b v hb (h1 b v hb hN)
theorem mK_F {S : Nat → Prop} {f g : Nat → Int64} {a : Nat} (h : mF f g a) (ha : S a) : mK S f g := fun _ _ hb hN => mF_Nm h (fun e => hb (by rw [e]; exact ha)) hN
theorem mK_w {S T : Nat → Prop} {f g : Nat → Int64} (h : mK S f g) (hT : ∀ b, S b → T b) : mK T f g := fun b v hb hN => h b v (fun z => hb (hT b z)) hN
section GC
variable {L0 : Nat} {xs : Nat → Int32} {Q : xiQ} {I : Nat → Nat → Int32} {L : Nat → Nat → Int64} {f p q r : Nat → Int64}
theorem c_result_ha {v1 v2 v3 v4 : Int32} {g B A0 : Nat} (hg : g % 2 = 1)
    (hQ : ∀ f3 A, A ≤ A0 → mK (fun b => 2 ≤ b ∧ b < 5) f f3 → 0 < A → A % 2 = 1 → Nat.gcd A B = g → Nm f3 2 ((A : Nat) : Int) → Nm f3 3 ((B : Nat) : Int) → xi_V (xG L0 xs) 124 143 [some (Value.ref 37), some (Value.int v1), some (Value.int v2), some (Value.int v3), some (Value.int v4), none] [] (xSH, xRF, I, mL L f3 p q r) 0 0 Q) :
    ∀ (n A : Nat) (f2 : Nat → Int64), A ≤ n → A ≤ A0 → 0 < A → Nat.gcd A B = g → mK (fun b => 2 ≤ b ∧ b < 5) f f2 → Nm f2 2 ((A : Nat) : Int) → Nm f2 3 ((B : Nat) : Int) → xi_V (xG L0 xs) 124 127 [some (Value.ref 37), some (Value.int v1), some (Value.int v2), some (Value.int v3), some (Value.int v4), none] [] (xSH, xRF, I, mL L f2 p q r) 0 0 Q := by
  intro n
  induction n with
  | zero => intro A f2 h1 h0 h2; exact absurd h1 (by omega)
  | succ n ih =>
    intro A f2 h1 h0 h2 h3 hk n2 n3
    refine b_M_result_127 (c_isEven (a := 2) (by decide) n2 ?_)
    by_cases e : (A : Int) % 2 = 0
    · rw [if_pos e]
      refine b_M_result_132 ⟨fun c => absurd c (by decide), fun _ => c_half (a := 2) (by decide) n2 (by omega) (fun f3 m3 k3 => b_M_result_140 ?_)⟩
      rw [show (A : Int) / 2 = ((A / 2 : Nat) : Int) by omega] at k3
      exact ih (A / 2) f3 (by omega) (by omega) (by omega) (gcd_hf hg h3 (by omega)) (mK_tr hk (mK_F m3 (by decide))) k3 (mF_Nm m3 (by decide) n3)
    · rw [if_neg e]
      exact b_M_result_132 ⟨fun _ => hQ f2 A h0 hk h2 (by omega) h3 n2 n3, fun c => absurd rfl c⟩
theorem c_result_hb {v1 v2 v3 v4 : Int32} {g A B0 : Nat} (hg : g % 2 = 1)
    (hQ : ∀ f3 B', B' ≤ B0 → mK (fun b => 2 ≤ b ∧ b < 5) f f3 → 0 < B' → Nat.gcd A B' = g → Nm f3 2 ((A : Nat) : Int) → Nm f3 3 ((B' : Nat) : Int) → xi_V (xG L0 xs) 123 0 [some (Value.ref 37), some (Value.int ((2 : Int32))), some (Value.int ((3 : Int32))), none, none, none, none, none] [] (xSH, xRF, I, mL L f3 p q r) 0 0 (fun o σ' => xi_V (xG L0 xs) 124 165 [some (Value.ref 37), some (Value.int v1), some (Value.int v2), some (Value.int v3), some (Value.int v4), none] (o.toList ++ []) σ' 0 0 Q)) :
    ∀ (n B : Nat) (f2 : Nat → Int64), B ≤ n → B ≤ B0 → 0 < B → Nat.gcd A B = g → mK (fun b => 2 ≤ b ∧ b < 5) f f2 → Nm f2 2 ((A : Nat) : Int) → Nm f2 3 ((B : Nat) : Int) → xi_V (xG L0 xs) 124 143 [some (Value.ref 37), some (Value.int v1), some (Value.int v2), some (Value.int v3), some (Value.int v4), none] [] (xSH, xRF, I, mL L f2 p q r) 0 0 Q := by
  intro n
  induction n with
  | zero => intro B f2 h1 h0 h2; exact absurd h1 (by omega)
  | succ n ih =>
    intro B f2 h1 h0 h2 h3 hk n2 n3
    refine b_M_result_143 (c_isEven (a := 3) (by decide) n3 ?_)
    by_cases e : (B : Int) % 2 = 0
    · rw [if_pos e]
      refine b_M_result_148 ⟨fun c => absurd c (by decide), fun _ => c_half (a := 3) (by decide) n3 (by omega) (fun f3 m3 k3 => b_M_result_156 ?_)⟩
      rw [show (B : Int) / 2 = ((B / 2 : Nat) : Int) by omega] at k3
      exact ih (B / 2) f3 (by omega) (by omega) (by omega) (gcd_hf2 hg h3 (by omega)) (mK_tr hk (mK_F m3 (by decide))) (mF_Nm m3 (by decide) n2) k3
    · rw [if_neg e]
      exact b_M_result_148 ⟨fun _ => hQ f2 B h0 hk h2 h3 n2 n3, fun c => absurd rfl c⟩
theorem m_m1 : (-1 : Int64).toInt = -1 := by decide
theorem c_result_lp {v1 v2 v3 v4 : Int32} {g : Nat} (hg : g % 2 = 1)
    (hQ : ∀ f3, mK (fun b => 2 ≤ b ∧ b < 5) f f3 → Nm f3 3 ((g : Nat) : Int) → xi_V (xG L0 xs) 124 195 [some (Value.ref 37), some (Value.int v1), some (Value.int v2), some (Value.int v3), some (Value.int v4), some (Value.int ((0 : Int32)))] [] (xSH, xRF, I, mL L f3 p q r) 0 0 Q) :
    ∀ (n A B : Nat) (f2 : Nat → Int64), A + B ≤ n → 0 < B → Nat.gcd A B = g → mK (fun b => 2 ≤ b ∧ b < 5) f f2 → Nm f2 2 ((A : Nat) : Int) → Nm f2 3 ((B : Nat) : Int) → xi_V (xG L0 xs) 124 119 [some (Value.ref 37), some (Value.int v1), some (Value.int v2), some (Value.int v3), some (Value.int v4), none] [] (xSH, xRF, I, mL L f2 p q r) 0 0 Q := by
  intro n
  induction n with
  | zero => intro A B f2 h1 h2; exact absurd h1 (by omega)
  | succ n ih =>
    intro A B f2 h1 h2 h3 hk n2 n3
    refine b_M_result_119 (c_isZero (a := 2) (by decide) n2 ?_)
    by_cases e : A = 0
    · subst e
      rw [if_pos (show ((0 : Nat) : Int) = 0 from rfl)]
      rw [Nat.gcd_zero_left] at h3
      subst h3
      exact b_M_result_124 ⟨fun _ => hQ f2 hk n3, fun c => absurd c (by decide)⟩
    · rw [if_neg (by omega)]
      refine b_M_result_124 ⟨fun c => absurd rfl c, fun _ => ?_⟩
      refine c_result_ha (A0 := A) (f := f) hg (fun f3 A' l1 k1 p1 o1 g1 a2 a3 => ?_) A A f2 (Nat.le_refl _) (Nat.le_refl _) (by omega) h3 hk n2 n3
      refine c_result_hb (B0 := B) (f := f) hg (fun f4 B' l2 k4 p4 g4 b2 b3 => ?_) B B f3 (Nat.le_refl _) (Nat.le_refl _) h2 g1 k1 a2 a3
      refine c_isLess (a := 2) (b := 3) (by decide) (by decide) b2 b3 (by omega) (by omega) ?_
      have v2 := Nm_val b2
      have v3 := Nm_val b3
      have hp43 := nB_pow 43
      by_cases lt : A' < B'
      · rw [if_pos (by clear v2 v3; omega)]
        refine b_M_result_165 ⟨fun c => absurd c (by decide), fun _ => c_more (a := 3) (b := 2) (by decide) (by decide) (by decide) (w := -1) b3 b2 (by decide) ?_ ?_ (fun f5 m5 k5 => b_M_result_177 ?_)⟩
        · rw [m_m1]; generalize nB ^ 43 = P at *; omega
        · rw [m_m1]; generalize nB ^ 43 = P at *; omega
        · rw [m_m1, show (B' : Int) + (A' : Int) * (-1) = ((B' - A' : Nat) : Int) by clear v2 v3; omega] at k5
          clear v2 v3
          exact ih A' (B' - A') f5 (by omega) (by omega) (by rw [Nat.gcd_sub_self_right (by omega)]; exact g4) (mK_tr k4 (mK_F m5 (by decide))) (mF_Nm m5 (by decide) b2) k5
      · rw [if_neg (by clear v2 v3; omega)]
        refine b_M_result_165 ⟨fun _ => c_more (a := 2) (b := 3) (by decide) (by decide) (by decide) (w := -1) b2 b3 (by decide) ?_ ?_ (fun f5 m5 k5 => b_M_result_189 ?_), fun c => absurd rfl c⟩
        · rw [m_m1]; generalize nB ^ 43 = P at *; omega
        · rw [m_m1]; generalize nB ^ 43 = P at *; omega
        · rw [m_m1, show (A' : Int) + (B' : Int) * (-1) = ((A' - B' : Nat) : Int) by clear v2 v3; omega] at k5
          clear v2 v3
          exact ih (A' - B') B' f5 (by omega) p4 (by rw [Nat.gcd_sub_self_left (by omega)]; exact g4) (mK_tr k4 (mK_F m5 (by decide))) k5 (mF_Nm m5 (by decide) b3)
theorem c_result_tw {v1 v2 v3 : Int32} {X Y : Nat} (hX : 0 < X) (hY : 0 < Y)
    (hQ : ∀ f3 A B t, mK (fun b => 2 ≤ b ∧ b < 5) f f3 → A * 2 ^ t = X → B * 2 ^ t = Y → (A % 2 = 1 ∨ B % 2 = 1) → Nm f3 2 ((A : Nat) : Int) → Nm f3 3 ((B : Nat) : Int) → xi_V (xG L0 xs) 124 119 [some (Value.ref 37), some (Value.int v1), some (Value.int v2), some (Value.int v3), some (Value.int (nI t)), none] [] (xSH, xRF, I, mL L f3 p q r) 0 0 Q) :
    ∀ (n A B t : Nat) (f2 : Nat → Int64), A ≤ n → A * 2 ^ t = X → B * 2 ^ t = Y → mK (fun b => 2 ≤ b ∧ b < 5) f f2 → Nm f2 2 ((A : Nat) : Int) → Nm f2 3 ((B : Nat) : Int) → xi_V (xG L0 xs) 124 87 [some (Value.ref 37), some (Value.int v1), some (Value.int v2), some (Value.int v3), some (Value.int (nI t)), none] [] (xSH, xRF, I, mL L f2 p q r) 0 0 Q := by
  intro n
  induction n with
  | zero =>
    intro A B t f2 h1 h2
    rw [show A = 0 by omega, Nat.zero_mul] at h2
    exact absurd h2 (by omega)
  | succ n ih =>
    intro A B t f2 h1 h2 h3 hk n2 n3
    have hA : 0 < A := by
      rcases Nat.eq_zero_or_pos A with z | z
      · rw [z, Nat.zero_mul] at h2; exact absurd h2 (by omega)
      · exact z
    refine b_M_result_87 (c_isEven (a := 2) (by decide) n2 ?_)
    by_cases e : (A : Int) % 2 = 0
    · rw [if_pos e]
      refine b_M_result_92 ⟨fun c => absurd c (by decide), fun _ => c_isEven (a := 3) (by decide) n3 ?_⟩
      by_cases e2 : (B : Int) % 2 = 0
      · rw [if_pos e2]
        refine b_M_result_100 ⟨fun c => absurd c (by decide), fun _ => c_half (a := 2) (by decide) n2 (by omega) (fun f3 m3 k3 => b_M_result_108 (c_half (a := 3) (by decide) (mF_Nm m3 (by decide) n3) (by omega) (fun f4 m4 k4 => b_M_result_113 ?_)))⟩
        rw [show (A : Int) / 2 = ((A / 2 : Nat) : Int) by omega] at k3
        rw [show (B : Int) / 2 = ((B / 2 : Nat) : Int) by omega] at k4
        rw [nI_1]
        refine ih (A / 2) (B / 2) (t + 1) f4 (by omega) ?_ ?_ (mK_tr hk (mK_tr (mK_F m3 (by decide)) (mK_F m4 (by decide)))) (mF_Nm m4 (by decide) k3) k4
        · rw [← h2, Nat.pow_succ, Nat.mul_comm (2 ^ t) 2, ← Nat.mul_assoc, show A / 2 * 2 = A by omega]
        · rw [← h3, Nat.pow_succ, Nat.mul_comm (2 ^ t) 2, ← Nat.mul_assoc, show B / 2 * 2 = B by omega]
      · rw [if_neg e2]
        exact b_M_result_100 ⟨fun _ => hQ f2 A B t hk h2 h3 (Or.inr (by omega)) n2 n3, fun c => absurd rfl c⟩
    · rw [if_neg e]
      exact b_M_result_92 ⟨fun _ => hQ f2 A B t hk h2 h3 (Or.inl (by omega)) n2 n3, fun c => absurd rfl c⟩
theorem c_result_db {v1 v2 v3 : Int32} {t g : Nat} (ht : t < 2 ^ 31) (hG : ((g * 2 ^ t : Nat) : Int) < nB ^ 43)
    (hQ : ∀ f3, mK (fun b => 2 ≤ b ∧ b < 5) f f3 → Nm f3 3 ((g * 2 ^ t : Nat) : Int) → xi_V (xG L0 xs) 119 0 [some (Value.ref 37), some (Value.int ((0 : Int32))), some (Value.int ((3 : Int32))), none, none, none, none, none, none, none, none, none, none, none, none, none] [] (xSH, xRF, I, mL L f3 p q r) 0 0 (fun o σ' => xi_V (xG L0 xs) 124 227 [some (Value.ref 37), some (Value.int v1), some (Value.int v2), some (Value.int v3), some (Value.int (nI t)), some (Value.int (nI t))] (o.toList ++ []) σ' 0 0 Q)) :
    ∀ (n i : Nat) (f2 : Nat → Int64), i + n = t → mK (fun b => 2 ≤ b ∧ b < 5) f f2 → Nm f2 3 ((g * 2 ^ i : Nat) : Int) → xi_V (xG L0 xs) 124 195 [some (Value.ref 37), some (Value.int v1), some (Value.int v2), some (Value.int v3), some (Value.int (nI t)), some (Value.int (nI i))] [] (xSH, xRF, I, mL L f2 p q r) 0 0 Q := by
  intro n
  induction n with
  | zero =>
    intro i f2 hi hk n3
    have : i = t := by omega
    subst this
    exact b_M_result_195 ⟨fun _ => hQ f2 hk n3, fun c => absurd (nI_le (Nat.le_refl i) ht) c⟩
  | succ n ih =>
    intro i f2 hi hk n3
    have hle : g * 2 ^ (i + 1) ≤ g * 2 ^ t := Nat.mul_le_mul_left g (Nat.pow_le_pow_right (by decide) (by omega))
    have e2 : g * 2 ^ (i + 1) = g * 2 ^ i * 2 := by rw [Nat.pow_succ, Nat.mul_assoc]
    have hp43 := nB_pow 43
    refine b_M_result_195 ⟨fun c => absurd c (nI_ge (by omega) ht), fun _ => c_copy (a := 4) (b := 3) (by decide) (by decide) (by decide) n3 (fun f3 m3 k3 => b_M_result_208 (c_more (a := 3) (b := 4) (by decide) (by decide) (by decide) (w := 1) (mF_Nm m3 (by decide) n3) k3 (by decide) ?_ ?_ (fun f4 m4 k4 => b_M_result_215 ?_)))⟩
    · rw [m_1L]
      generalize nB ^ 43 = P at *
      omega
    · rw [m_1L]
      generalize nB ^ 43 = P at *
      omega
    · rw [m_1L, show ((g * 2 ^ i : Nat) : Int) + ((g * 2 ^ i : Nat) : Int) * 1 = ((g * 2 ^ (i + 1) : Nat) : Int) by clear hG; omega] at k4
      rw [nI_1]
      exact ih (i + 1) f4 (by omega) (mK_tr hk (mK_tr (mK_F m3 (by decide)) (mK_F m4 (by decide)))) k4
end GC
