/-! standsAt and weigh -/
theorem sz_mono {D : xD} {a : Nat} : ∀ d, sz D a ≤ sz D (a + d)
  | 0 => Nat.le_refl _
  | d + 1 => by have := sz_mono (D := D) (a := a) d; show sz D a ≤ sz D (a + d) + qZ D (a + d); omega
theorem sz_le2 {D : xD} {a b : Nat} (h : a ≤ b) : sz D a ≤ sz D b := by
  have := sz_mono (D := D) (a := a) (b - a)
  rw [show a + (b - a) = b by omega] at this
  exact this
/-- how many NAMES end at or ahead of place p, of the first m -/
def stA (D : xD) (p : Nat) : Nat → Nat
  | 0 => 0
  | m + 1 => stA D p m + (if qn D * sz D (m + 1) ≤ p then 1 else 0)
theorem stA_is {D : xD} {p i : Nat} (h1 : qn D * sz D i ≤ p) (h2 : p < qn D * sz D (i + 1)) : ∀ m, stA D p m = if m ≤ i then m else i
  | 0 => by simp [stA]
  | m + 1 => by
    rw [stA, stA_is h1 h2 m]
    by_cases c : m + 1 ≤ i
    · have : qn D * sz D (m + 1) ≤ qn D * sz D i := Nat.mul_le_mul_left _ (sz_le2 c)
      rw [if_pos (show m ≤ i by omega), if_pos c, if_pos (by omega)]
    · have : qn D * sz D (i + 1) ≤ qn D * sz D (m + 1) := Nat.mul_le_mul_left _ (sz_le2 (by omega))
      rw [if_neg c, if_neg (show ¬ qn D * sz D (m + 1) ≤ p by omega)]
      split <;> omega
/-- the set that is drawn from a beginning, by the first j places -/
def stS (D : xD) (r : Nat) : Nat → Nat
  | 0 => 0
  | j + 1 => stS D r j ||| 2 ^ stA D (r + j * qT D) (qN D)
def wS (D : xD) (s : Nat) : Nat → Int
  | 0 => 0
  | r + 1 => wS D s r + (if stS D r (qn D) = s then 1 else 0)
def w0 (D : xD) (s : Nat) : Int := if bc s 10 = qn D then 1 else 0
noncomputable def w1 (D : xD) (s : Nat) : Int := @ite Int (byH D s) (Classical.propDecidable _) 1 0
def w3 (D : xD) (s : Nat) : Nat → Int
  | 0 => 1
  | i + 1 => w3 D s i * (if bt s i = 1 then (qS D i : Int) else 100 - (qS D i : Int))
def w4 (D : xD) (s : Nat) : Nat → Int
  | 0 => w0 D s
  | i + 1 => w4 D s i * (if bt s i = 1 then (qZ D i : Int) else 1)
/-- the weight of a set, as the reference has it -/
noncomputable def wt (D : xD) (s : Nat) : Int := if qK D = 0 then w0 D s else if qK D = 1 then w1 D s else if qK D = 2 then wS D s (qT D) else if qK D = 3 then w3 D s (qN D) else w4 D s (qN D)
theorem w0_01 (D : xD) (s : Nat) : 0 ≤ w0 D s ∧ w0 D s ≤ 1 := by unfold w0; split <;> decide
theorem w1_01 (D : xD) (s : Nat) : 0 ≤ w1 D s ∧ w1 D s ≤ 1 := by unfold w1; split <;> decide
theorem mulb {x y A B : Int} (h1 : 0 ≤ x ∧ x ≤ A) (h2 : 0 ≤ y ∧ y ≤ B) : 0 ≤ x * y ∧ x * y ≤ A * B := by
  refine ⟨Int.mul_nonneg h1.1 h2.1, ?_⟩
  have a : x * y ≤ A * y := Int.mul_le_mul_of_nonneg_right h1.2 h2.1
  have b : A * y ≤ A * B := Int.mul_le_mul_of_nonneg_left h2.2 (Int.le_trans h1.1 h1.2)
  exact Int.le_trans a b
theorem w3_b {D : xD} (hC : okC D) (s : Nat) : ∀ i, i ≤ qN D → 0 ≤ w3 D s i ∧ w3 D s i ≤ 100 ^ i
  | 0, _ => by unfold w3; decide
  | i + 1, h => by
    have h1 := w3_b hC s i (by omega)
    have h2 := (hC.2 i (by omega)).2.2.2
    rw [w3, Int.pow_succ]
    refine mulb h1 ?_
    split <;> omega
theorem w4_b {D : xD} (hC : okC D) (s : Nat) : ∀ i, i ≤ qN D → 0 ≤ w4 D s i ∧ w4 D s i ≤ 100 ^ i
  | 0, _ => by unfold w4; exact w0_01 D s
  | i + 1, h => by
    have h1 := w4_b hC s i (by omega)
    have h2 := (hC.2 i (by omega)).2.1
    rw [w4, Int.pow_succ]
    refine mulb h1 ?_
    split <;> omega
theorem p100 {i : Nat} (h : i ≤ 10) : (100 : Int) ^ i ≤ 100000000000000000000 := by
  have : ∀ i : Fin 11, (100 : Int) ^ i.val ≤ 100000000000000000000 := by decide
  exact this ⟨i, by omega⟩
/-- two numbers that fit -/
theorem fitS {x y A B : Int} (h1 : -A ≤ x ∧ x ≤ A) (h2 : -B ≤ y ∧ y ≤ B) (h : A * B < nB ^ 43) : (x.natAbs : Int) * (y.natAbs : Int) < nB ^ 43 := by
  have := mulb (x := (x.natAbs : Int)) (y := (y.natAbs : Int)) (A := A) (B := B) ⟨by clear h; omega, by clear h; omega⟩ ⟨by clear h; omega, by clear h; omega⟩
  exact Int.lt_of_le_of_lt this.2 h
theorem big_lt : (1000000000000000000000000000000 : Int) < nB ^ 43 := by decide +kernel
theorem neg_big {x A : Int} (hA : A < nB ^ 43) (h : -A ≤ x) : -(nB ^ 43) < x := by
  generalize nB ^ 43 = P at *; omega
section WG
variable {L0 : Nat} {xs : Nat → Int32} {Q : xiQ} {I : Nat → Nat → Int32} {L : Nat → Nat → Int64} {f p q r : Nat → Int64}
variable {D : xD}
theorem c_mStands_lp (hD0 : okD D) (hI : mC I D) (hD : mD I D) {pl : Nat} (hpl : pl < qn D * qT D) (hQ : Q (some (Value.int (nI (stA D pl (qN D))))) (xSH, xRF, I, L)) :
    ∀ n i : Nat, i + n + 1 = qN D → qn D * sz D i ≤ pl → xi_V (xG L0 xs) 138 14 [some (Value.ref 37), some (Value.int (nI pl)), some (Value.int (nI i)), some (Value.int (nI (qn D * sz D (i + 1))))] [] (xSH, xRF, I, L) 0 0 Q := by
  have h10 := hD0.1.1
  have hn10 := hD0.2.2.1
  have hT := qT_le hD0.1
  have hb1 : qn D * qT D ≤ 10 * 500 := Nat.mul_le_mul (by omega) hT
  intro n
  induction n with
  | zero =>
    intro i hn h1
    have e : qn D * sz D (i + 1) = qn D * qT D := by rw [show i + 1 = qN D by omega]; rfl
    rw [e]
    refine b_M_standsAt_14 (pk_lt pl (qn D * qT D) (fun _ => ?_) (fun c => absurd c (by omega)))
    rw [stA_is h1 (by rw [e]; exact hpl), if_neg (by omega)] at hQ
    exact hQ
  | succ n ih =>
    intro i hn h1
    have hle : qn D * sz D (i + 1) ≤ qn D * qT D := Nat.mul_le_mul_left _ (sz_le2 (by omega))
    refine b_M_standsAt_14 (pk_lt pl (qn D * sz D (i + 1)) (fun c => ?_) (fun c => ?_))
    · rw [stA_is h1 c, if_neg (by omega)] at hQ
      exact hQ
    · rw [nI_1, nI_clamp (by omega), hD.2.1, (hI.2 (i + 1) (by omega)).2.1, pk_mul, nI_add, ← Nat.mul_add]
      exact ⟨pk_in (i + 1) 10 (by omega), ih (i + 1) (by omega) c⟩
theorem c_mStands (hD0 : okD D) (hI : mC I D) (hD : mD I D) {pl : Nat} (hpl : pl < qn D * qT D) (hQ : Q (some (Value.int (nI (stA D pl (qN D))))) (xSH, xRF, I, L)) :
    xi_V (xG L0 xs) 138 0 [some (Value.ref 37), some (Value.int (nI pl)), none, none] [] (xSH, xRF, I, L) 0 0 Q := by
  have h10 := hD0.1.1
  refine b_M_standsAt_0 ⟨pk_in 0 10 (by decide), ?_⟩
  have := c_mStands_lp (L0 := L0) (xs := xs) hD0 hI hD hpl hQ (qN D - 1) 0 (by omega) (by rw [show sz D 0 = 0 from rfl]; omega)
  rw [show (0 : Int32).toNatClampNeg = 0 from rfl, hD.2.1, (hI.2 0 (by omega)).2.1, pk_mul]
  rw [show sz D (0 + 1) = 0 + qZ D 0 from rfl, Nat.zero_add] at this
  exact this
theorem c_mWeigh3 (hC : okC D) (hI : mC I D) {s : Nat} (hs : s < 1024) (hQ : ∀ g p' q' r', mK (fun c => c = 5 ∨ c = 6) f g → Nm g 6 (w3 D s (qN D)) → Q none (xSH, xRF, I, mL L g p' q' r')) :
    ∀ (n i : Nat) (g p' q' r' : Nat → Int64), i + n = qN D → mK (fun c => c = 5 ∨ c = 6) f g → Nm g 6 (w3 D s i) → xi_V (xG L0 xs) 140 79 [some (Value.ref 37), some (Value.int (nI s)), some (Value.int (nI i))] [] (xSH, xRF, I, mL L g p' q' r') 0 0 Q := by
  have h10 := hC.1
  intro n
  induction n with
  | zero =>
    intro i g p' q' r' hn hk h6
    refine b_M_weigh_79 ?_
    rw [hI.1]
    refine pk_le (qN D) i (fun c => hQ g p' q' r' hk ?_) (fun c => absurd c (by omega))
    rw [show qN D = i by omega]
    exact h6
  | succ n ih =>
    intro i g p' q' r' hn hk h6
    refine b_M_weigh_79 ?_
    rw [hI.1]
    refine pk_le (qN D) i (fun c => absurd c (by omega)) (fun c => ?_)
    have hS := (hC.2 i c).2.2.2
    have hb := w3_b hC s i (by omega)
    have hp := p100 (show i ≤ 10 by omega)
    rw [bt_I (by omega) (by omega), bt_is1, nI_clamp (by omega), (hI.2 i c).2.2.2]
    have go : ∀ z : Int, 0 ≤ z → z ≤ 100 → w3 D s (i + 1) = w3 D s i * z → xi_V (xG L0 xs) 109 0 [some (Value.ref 37), some (Value.int ((5 : Int32))), some (Value.long (zL z)), none, none] [] (xSH, xRF, I, mL L g p' q' r') 0 0 (fun o σ' => xi_V (xG L0 xs) 140 121 [some (Value.ref 37), some (Value.int (nI s)), some (Value.int (nI i))] (o.toList ++ []) σ' 0 0 Q) := by
      intro z z0 z1 ez
      refine c_put (a := 5) (by decide) (by rw [zL_t (by omega) (by omega)]; omega) (fun g1 m1 n1 => b_M_weigh_121 ?_)
      rw [zL_t (by omega) (by omega)] at n1
      have m6 := mF_Nm m1 (b := 6) (by decide) h6
      refine c_times (t := 6) (a := 6) (b := 5) (by decide) (by decide) (by decide) m6 n1 (neg_big big_lt (by omega)) (neg_big big_lt (by omega)) (fitS (A := 100000000000000000000) (B := 100) (by omega) (by omega) (Int.lt_trans (by decide) big_lt)) (fun g2 p2 q2 r2 m2 n2 => b_M_weigh_130 ?_)
      rw [nI_1]
      rw [← ez] at n2
      exact ih (i + 1) g2 p2 q2 r2 (by omega) (mK_tr hk (mK_tr (mK_F m1 (Or.inl rfl)) (mK_F m2 (Or.inr rfl)))) n2
    refine ⟨fun e => ⟨pk_in i 10 (by omega), ?_⟩, fun e => ⟨pk_in i 10 (by omega), ?_⟩⟩
    · rw [show (100 : Int32) = zI 100 from rfl, zI_n, zI_sub, zI_L (by omega) (by omega)]
      exact go (100 - (qS D i : Int)) (by omega) (by omega) (by rw [w3, if_neg e])
    · rw [nI_L (by omega)]
      exact go (qS D i : Int) (by omega) (by omega) (by rw [w3, if_pos e])
theorem c_mWeigh4 (hC : okC D) (hI : mC I D) {s : Nat} (hs : s < 1024) (hQ : ∀ g p' q' r', mK (fun c => c = 5 ∨ c = 6) f g → Nm g 6 (w4 D s (qN D)) → Q none (xSH, xRF, I, mL L g p' q' r')) :
    ∀ (n i : Nat) (g p' q' r' : Nat → Int64), i + n = qN D → mK (fun c => c = 5 ∨ c = 6) f g → Nm g 6 (w4 D s i) → xi_V (xG L0 xs) 140 163 [some (Value.ref 37), some (Value.int (nI s)), some (Value.int (nI i))] [] (xSH, xRF, I, mL L g p' q' r') 0 0 Q := by
  have h10 := hC.1
  intro n
  induction n with
  | zero =>
    intro i g p' q' r' hn hk h6
    refine b_M_weigh_163 ?_
    rw [hI.1]
    refine pk_le (qN D) i (fun c => hQ g p' q' r' hk ?_) (fun c => absurd c (by omega))
    rw [show qN D = i by omega]
    exact h6
  | succ n ih =>
    intro i g p' q' r' hn hk h6
    refine b_M_weigh_163 ?_
    rw [hI.1]
    refine pk_le (qN D) i (fun c => absurd c (by omega)) (fun c => ?_)
    have hS := (hC.2 i c).2.1
    have hb := w4_b hC s i (by omega)
    have hp := p100 (show i ≤ 10 by omega)
    rw [bt_I (by omega) (by omega), bt_is1, nI_clamp (by omega), (hI.2 i c).2.1]
    have go : ∀ z : Int, 0 ≤ z → z ≤ 100 → w4 D s (i + 1) = w4 D s i * z → xi_V (xG L0 xs) 109 0 [some (Value.ref 37), some (Value.int ((5 : Int32))), some (Value.long (zL z)), none, none] [] (xSH, xRF, I, mL L g p' q' r') 0 0 (fun o σ' => xi_V (xG L0 xs) 140 196 [some (Value.ref 37), some (Value.int (nI s)), some (Value.int (nI i))] (o.toList ++ []) σ' 0 0 Q) := by
      intro z z0 z1 ez
      refine c_put (a := 5) (by decide) (by rw [zL_t (by omega) (by omega)]; omega) (fun g1 m1 n1 => b_M_weigh_196 ?_)
      rw [zL_t (by omega) (by omega)] at n1
      have m6 := mF_Nm m1 (b := 6) (by decide) h6
      refine c_times (t := 6) (a := 6) (b := 5) (by decide) (by decide) (by decide) m6 n1 (neg_big big_lt (by omega)) (neg_big big_lt (by omega)) (fitS (A := 100000000000000000000) (B := 100) (by omega) (by omega) (Int.lt_trans (by decide) big_lt)) (fun g2 p2 q2 r2 m2 n2 => b_M_weigh_205 ?_)
      rw [nI_1]
      rw [← ez] at n2
      exact ih (i + 1) g2 p2 q2 r2 (by omega) (mK_tr hk (mK_tr (mK_F m1 (Or.inl rfl)) (mK_F m2 (Or.inr rfl)))) n2
    refine ⟨fun e => ?_, fun e => ⟨pk_in i 10 (by omega), ?_⟩⟩
    · exact go 1 (by omega) (by omega) (by rw [w4, if_neg e])
    · rw [nI_L (by omega)]
      exact go (qZ D i : Int) (by omega) (by omega) (by rw [w4, if_pos e])
/-- weigh(s), not by STEPS -/
theorem c_mWeigh (hD0 : okD D) (hI : mC I D) (hD : mD I D) (hK : qK D ≠ 2) {s : Nat} (hs : s < 1024) (hQ : ∀ g p' q' r', mK (fun c => c = 5 ∨ c = 6) f g → Nm g 6 (wt D s) → Q none (xSH, xRF, I, mL L g p' q' r')) :
    xi_V (xG L0 xs) 140 0 [some (Value.ref 37), some (Value.int (nI s)), none] [] (xSH, xRF, I, mL L f p q r) 0 0 Q := by
  have h10 := hD0.1.1
  have hK4 := hD0.2.1
  have hn10 := hD0.2.2.1
  have hbc := bc_le s 10
  refine b_M_weigh_0 (c_put (a := 6) (by decide) (w := 1) (by decide) (fun g1 m1 n1 => b_M_weigh_7 ?_))
  have k1 : mK (fun c => c = 5 ∨ c = 6) f g1 := mK_F m1 (Or.inr rfl)
  rw [hD.1]
  unfold wt at hQ
  refine ⟨fun a0 => ⟨fun a1 => ⟨fun a3 => ?_, fun a3 => ?_⟩, fun a1 => ?_⟩, fun a0 => ?_⟩
  · have e0 : qK D ≠ 0 := fun z => a0 (by rw [z]; rfl)
    have e1 : qK D ≠ 1 := fun z => a1 (by rw [z]; rfl)
    have e3 : qK D ≠ 3 := fun z => a3 (by rw [z]; rfl)
    rw [if_neg e0, if_neg e1, if_neg hK, if_neg e3] at hQ
    refine c_mBits (by omega) (b_M_weigh_146 ?_)
    rw [hD.2.1]
    refine ⟨fun e => c_put (a := 6) (by decide) (w := 0) (by decide) (fun g2 m2 n2 => b_M_weigh_161 (c_mWeigh4 hD0.1 hI hs hQ (qN D) 0 g2 _ _ _ (Nat.zero_add _) (mK_tr k1 (mK_F m2 (Or.inr rfl))) ?_)), fun e => c_put (a := 6) (by decide) (w := 1) (by decide) (fun g2 m2 n2 => b_M_weigh_161 (c_mWeigh4 hD0.1 hI hs hQ (qN D) 0 g2 _ _ _ (Nat.zero_add _) (mK_tr k1 (mK_F m2 (Or.inr rfl))) ?_))⟩
    · rw [w4, w0, if_neg (fun z => e (by rw [z]))]
      exact n2
    · rw [nI_eq (by omega) (by omega)] at e
      rw [w4, w0, if_pos e]
      exact n2
  · have e3 : qK D = 3 := (nI_eq (by omega) (by omega)).mp a3
    rw [e3] at hQ
    exact c_mWeigh3 hD0.1 hI hs hQ (qN D) 0 g1 _ _ _ (Nat.zero_add _) k1 (by rw [m_1L] at n1; exact n1)
  · have e1 : qK D = 1 := (nI_eq (by omega) (by omega)).mp a1
    rw [e1] at hQ
    refine c_mByH hD0 hI hD (by omega) ⟨fun e => b_M_weigh_55 ⟨fun c => absurd c (by decide), fun _ => c_put (a := 6) (by decide) (w := 1) (by decide) (fun g2 m2 n2 => b_M_weigh_66 (hQ g2 _ _ _ (mK_tr k1 (mK_F m2 (Or.inr rfl))) ?_))⟩, fun e => b_M_weigh_55 ⟨fun _ => c_put (a := 6) (by decide) (w := 0) (by decide) (fun g2 m2 n2 => b_M_weigh_66 (hQ g2 _ _ _ (mK_tr k1 (mK_F m2 (Or.inr rfl))) ?_)), fun c => absurd rfl c⟩⟩
    · rw [if_neg (by decide), if_pos rfl, w1, if_pos e]
      exact n2
    · rw [if_neg (by decide), if_pos rfl, w1, if_neg e]
      exact n2
  · have e0 : qK D = 0 := (nI_eq (by omega) (by omega)).mp a0
    rw [e0] at hQ
    refine c_mBits (by omega) (b_M_weigh_21 ?_)
    rw [hD.2.1]
    refine ⟨fun e => c_put (a := 6) (by decide) (w := 0) (by decide) (fun g2 m2 n2 => b_M_weigh_36 (hQ g2 _ _ _ (mK_tr k1 (mK_F m2 (Or.inr rfl))) ?_)), fun e => c_put (a := 6) (by decide) (w := 1) (by decide) (fun g2 m2 n2 => b_M_weigh_36 (hQ g2 _ _ _ (mK_tr k1 (mK_F m2 (Or.inr rfl))) ?_))⟩
    · rw [if_pos rfl, w0, if_neg (fun z => e (by rw [z]))]
      exact n2
    · rw [nI_eq (by omega) (by omega)] at e
      rw [if_pos rfl, w0, if_pos e]
      exact n2
end WG
