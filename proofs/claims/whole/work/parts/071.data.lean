/-! what a bench holds: NAMES, WORTH, SIZE, HEAP, SHARE; kind, n, DRAWN -/
abbrev xD : Type := Nat × (Nat → Int) × (Nat → Nat) × (Nat → Nat) × (Nat → Nat) × Nat × Nat × (Nat → Nat)
def qN (D : xD) : Nat := D.1
def qW (D : xD) (i : Nat) : Int := D.2.1 i
def qZ (D : xD) (i : Nat) : Nat := D.2.2.1 i
def qH (D : xD) (i : Nat) : Nat := D.2.2.2.1 i
def qS (D : xD) (i : Nat) : Nat := D.2.2.2.2.1 i
def qK (D : xD) : Nat := D.2.2.2.2.2.1
def qn (D : xD) : Nat := D.2.2.2.2.2.2.1
def qd (D : xD) (h : Nat) : Nat := D.2.2.2.2.2.2.2 h
def okC (D : xD) : Prop := (1 ≤ qN D ∧ qN D ≤ 10) ∧ ∀ i, i < qN D → (-100 ≤ qW D i ∧ qW D i ≤ 100) ∧ (1 ≤ qZ D i ∧ qZ D i ≤ 50) ∧ qH D i ≤ 3 ∧ qS D i ≤ 100
def hn (D : xD) (h : Nat) : Nat → Nat
  | 0 => 0
  | n + 1 => hn D h n + (if qH D n = h then 1 else 0)
def hN (D : xD) (h : Nat) : Nat := hn D h (qN D)
theorem hn_le (D : xD) (h : Nat) : ∀ n, hn D h n ≤ n
  | 0 => Nat.le_refl 0
  | n + 1 => by have := hn_le D h n; rw [hn]; split <;> omega
def sz (D : xD) : Nat → Nat
  | 0 => 0
  | n + 1 => sz D n + qZ D n
def qT (D : xD) : Nat := sz D (qN D)
def okD (D : xD) : Prop := okC D ∧ qK D ≤ 4 ∧ qn D ≤ qN D ∧ (qK D = 2 → 1 ≤ qn D ∧ ∀ i, i < qN D → qZ D i * qn D ≤ qT D) ∧ (∀ h, h < 4 → qd D h ≤ hN D h) ∧ (qK D = 1 ∨ qK D = 3 → qn D = 0)
theorem sz_le {D : xD} (hC : okC D) : ∀ n, n ≤ qN D → sz D n ≤ 50 * n
  | 0, _ => Nat.le_refl 0
  | n + 1, h => by
    have h1 := sz_le hC n (by omega)
    have h2 := (hC.2 n (by omega)).2.1.2
    rw [sz]; omega
theorem qT_le {D : xD} (hC : okC D) : qT D ≤ 500 := by
  have := sz_le hC _ (Nat.le_refl _)
  have := hC.1.2
  unfold qT; omega
/-- the model holds it -/
def mC (I : Nat → Nat → Int32) (D : xD) : Prop := I 37 5 = nI (qN D) ∧ ∀ i, i < qN D → I 42 i = zI (qW D i) ∧ I 43 i = nI (qZ D i) ∧ I 44 i = nI (qH D i) ∧ I 45 i = nI (qS D i)
def mD (I : Nat → Nat → Int32) (D : xD) : Prop := I 37 11 = nI (qK D) ∧ I 37 12 = nI (qn D) ∧ ∀ h, h < 4 → I 46 h = nI (qd D h)
/-- NAMES of a HEAP that are in a set -/
def hb (D : xD) (s h : Nat) : Nat → Nat
  | 0 => 0
  | n + 1 => hb D s h n + (if qH D n = h then bt s n else 0)
theorem hb_le (D : xD) (s h : Nat) : ∀ n, hb D s h n ≤ n
  | 0 => Nat.le_refl 0
  | n + 1 => by
    have := hb_le D s h n
    have := bt_le s n
    rw [hb]; split <;> omega
def byH (D : xD) (s : Nat) : Prop := ∀ h, h < 4 → hb D s h (qN D) = qd D h
/-- the set of a HEAP -/
def hS (D : xD) (h : Nat) : Nat → Nat
  | 0 => 0
  | n + 1 => hS D h n + (if qH D n = h then 2 ^ n else 0)
theorem hS_lt (D : xD) (h : Nat) : ∀ n, hS D h n < 2 ^ n
  | 0 => by show 0 < 1; decide
  | n + 1 => by
    have := hS_lt D h n
    rw [hS, Nat.pow_succ]; split <;> omega
def sqs (D : xD) (s n : Nat) : Int := sm (fun i => (bt s i : Int) * (qW D i * qW D i)) n
def sws (D : xD) (s n : Nat) : Int := sm (fun i => (bt s i : Int) * qW D i) n
def offD (D : xD) (s : Nat) : Int := (bc s 10 : Int) * sqs D s (qN D) - sws D s (qN D) * sws D s (qN D)
def vD (D : xD) (h : Nat) : Int := if hN D h < 2 then 0 else (hN D h : Int) * offD D (hS D h (qN D)) * (2520 / ((hN D h : Int) - 1))
def adD (D : xD) (h n : Nat) : Int := if n = 0 then 0 else vD D h * (2520 / (n : Int))
theorem nI_or (a b : Nat) : nI a ||| nI b = nI (a ||| b) := by
  apply Int32.toBitVec_inj.1
  show BitVec.ofNat 32 a ||| BitVec.ofNat 32 b = BitVec.ofNat 32 (a ||| b)
  apply BitVec.eq_of_getLsbD_eq
  intro i hi
  simp [hi]
theorem or_add {a i : Nat} (h : a < 2 ^ i) : a ||| 2 ^ i = a + 2 ^ i := by
  have := Nat.two_pow_add_eq_or_of_lt h 1
  rw [Nat.mul_one] at this
  rw [Nat.or_comm, ← this, Nat.add_comm]
theorem l_2520 : (2520 : Int64) = zL 2520 := by decide
theorem p2_lt {n : Nat} (h : n ≤ 10) : 2 ^ n ≤ 1024 := Nat.pow_le_pow_right (by decide) h
section MD
variable {L0 : Nat} {xs : Nat → Int32} {Q : xiQ} {I : Nat → Nat → Int32} {L : Nat → Nat → Int64}
variable {D : xD}
theorem c_mNamesOf_lp (hC : okC D) (hI : mC I D) {h : Nat} (hh : h < 4) (hQ : Q (some (Value.int (nI (hN D h)))) (xSH, xRF, I, L)) :
    ∀ n i : Nat, i + n = qN D → xi_V (xG L0 xs) 130 4 [some (Value.ref 37), some (Value.int (nI h)), some (Value.int (nI (hn D h i))), some (Value.int (nI i))] [] (xSH, xRF, I, L) 0 0 Q
  | 0, i, hn' => by
    have h10 := hC.1
    refine b_M_namesOf_4 ?_
    rw [hI.1]
    refine pk_le (qN D) i (fun c => ?_) (fun c => absurd c (by omega))
    rw [show i = qN D by omega]
    exact hQ
  | n + 1, i, hn' => by
    have h10 := hC.1
    refine b_M_namesOf_4 ?_
    rw [hI.1]
    refine pk_le (qN D) i (fun c => absurd c (by omega)) (fun c => ⟨pk_in i 10 (by omega), ?_⟩)
    have hH := (hC.2 i c).2.2.1
    rw [nI_clamp (by omega), (hI.2 i c).2.2.1]
    refine ⟨fun e => ?_, fun e => ?_⟩
    · have := c_mNamesOf_lp hC hI hh hQ n (i + 1) (by omega)
      rw [hn, if_neg (fun z => e (by rw [z])), Nat.add_zero] at this
      rw [show (0 : Int32) = nI 0 from rfl, nI_add, Nat.add_zero, nI_1]
      exact this
    · have := c_mNamesOf_lp hC hI hh hQ n (i + 1) (by omega)
      rw [nI_eq (by omega) (by omega)] at e
      rw [hn, if_pos e] at this
      rw [nI_1, nI_1]
      exact this
theorem c_mNamesOf (hC : okC D) (hI : mC I D) {h : Nat} (hh : h < 4) (hQ : Q (some (Value.int (nI (hN D h)))) (xSH, xRF, I, L)) :
    xi_V (xG L0 xs) 130 0 [some (Value.ref 37), some (Value.int (nI h)), none, none] [] (xSH, xRF, I, L) 0 0 Q := b_M_namesOf_0 (c_mNamesOf_lp hC hI hh hQ (qN D) 0 (Nat.zero_add _))
theorem c_mSizes_lp (hC : okC D) (hI : mC I D) (hQ : Q (some (Value.int (nI (qT D)))) (xSH, xRF, I, L)) :
    ∀ n i : Nat, i + n = qN D → xi_V (xG L0 xs) 134 4 [some (Value.ref 37), some (Value.int (nI (sz D i))), some (Value.int (nI i))] [] (xSH, xRF, I, L) 0 0 Q
  | 0, i, hn' => by
    have h10 := hC.1
    refine b_M_sizes_4 ?_
    rw [hI.1]
    refine pk_le (qN D) i (fun c => ?_) (fun c => absurd c (by omega))
    rw [show i = qN D by omega]
    exact hQ
  | n + 1, i, hn' => by
    have h10 := hC.1
    refine b_M_sizes_4 ?_
    rw [hI.1]
    refine pk_le (qN D) i (fun c => absurd c (by omega)) (fun c => ⟨pk_in i 10 (by omega), ?_⟩)
    rw [nI_clamp (by omega), (hI.2 i c).2.1, nI_add, nI_1]
    exact c_mSizes_lp hC hI hQ n (i + 1) (by omega)
theorem c_mSizes (hC : okC D) (hI : mC I D) (hQ : Q (some (Value.int (nI (qT D)))) (xSH, xRF, I, L)) :
    xi_V (xG L0 xs) 134 0 [some (Value.ref 37), none, none] [] (xSH, xRF, I, L) 0 0 Q := b_M_sizes_0 (c_mSizes_lp hC hI hQ (qN D) 0 (Nat.zero_add _))
theorem c_mBits_lp {s : Nat} (hs : s < 2147483648) (hQ : Q (some (Value.int (nI (bc s 10)))) (xSH, xRF, I, L)) :
    ∀ n i : Nat, i + n = 10 → xi_V (xG L0 xs) 136 4 [some (Value.int (nI s)), some (Value.int (nI (bc s i))), some (Value.int (nI i))] [] (xSH, xRF, I, L) 0 0 Q
  | 0, i, hn' => by
    refine b_M_bits_4 (pk_le 10 i (fun c => ?_) (fun c => absurd c (by omega)))
    rw [show i = 10 by omega]
    exact hQ
  | n + 1, i, hn' => by
    refine b_M_bits_4 (pk_le 10 i (fun c => absurd c (by omega)) (fun c => ?_))
    rw [bt_I hs (by omega), nI_add, nI_1]
    exact c_mBits_lp hs hQ n (i + 1) (by omega)
theorem c_mBits {s : Nat} (hs : s < 2147483648) (hQ : Q (some (Value.int (nI (bc s 10)))) (xSH, xRF, I, L)) :
    xi_V (xG L0 xs) 136 0 [some (Value.int (nI s)), none, none] [] (xSH, xRF, I, L) 0 0 Q := b_M_bits_0 (c_mBits_lp hs hQ 10 0 rfl)
theorem c_mByH_in (hC : okC D) (hI : mC I D) (hD : mD I D) {s h : Nat} (hs : s < 2147483648) (hh : h < 4)
    (hQ : (hb D s h (qN D) = qd D h → xi_V (xG L0 xs) 137 2 [some (Value.ref 37), some (Value.int (nI s)), some (Value.int (nI (h + 1))), none, none] [] (xSH, xRF, I, L) 0 0 Q) ∧ (¬ hb D s h (qN D) = qd D h → Q (some (Value.int 0)) (xSH, xRF, I, L))) (hd : qd D h ≤ 10) :
    ∀ n i : Nat, i + n = qN D → xi_V (xG L0 xs) 137 12 [some (Value.ref 37), some (Value.int (nI s)), some (Value.int (nI h)), some (Value.int (nI (hb D s h i))), some (Value.int (nI i))] [] (xSH, xRF, I, L) 0 0 Q
  | 0, i, hn' => by
    have h10 := hC.1
    have hle := hb_le D s h (qN D)
    refine b_M_isByHeaps_12 ?_
    rw [hI.1]
    refine pk_le (qN D) i (fun c => ⟨pk_in h 4 hh, ?_⟩) (fun c => absurd c (by omega))
    rw [nI_clamp (by omega), hD.2.2 h hh, show i = qN D by omega]
    refine pk_eq (hb D s h (qN D)) (qd D h) (fun e => ?_) (fun e => ⟨by decide, hQ.2 e⟩)
    rw [nI_1]
    exact hQ.1 e
  | n + 1, i, hn' => by
    have h10 := hC.1
    refine b_M_isByHeaps_12 ?_
    rw [hI.1]
    refine pk_le (qN D) i (fun c => absurd c (by omega)) (fun c => ⟨pk_in i 10 (by omega), ?_⟩)
    have hH := (hC.2 i c).2.2.1
    have ih := c_mByH_in hC hI hD hs hh hQ hd n (i + 1) (by omega)
    rw [nI_clamp (by omega), (hI.2 i c).2.2.1]
    refine ⟨fun e => ?_, fun e => ?_⟩
    · rw [hb, if_neg (fun z => e (by rw [z])), Nat.add_zero] at ih
      rw [show (0 : Int32) = nI 0 from rfl, nI_add, Nat.add_zero, nI_1]
      exact ih
    · rw [nI_eq (by omega) (by omega)] at e
      rw [hb, if_pos e] at ih
      rw [bt_I hs (by omega), nI_add, nI_1]
      exact ih
theorem c_mByH_lp (hD0 : okD D) (hI : mC I D) (hD : mD I D) {s : Nat} (hs : s < 2147483648)
    (hQ : (byH D s → Q (some (Value.int 1)) (xSH, xRF, I, L)) ∧ (¬ byH D s → Q (some (Value.int 0)) (xSH, xRF, I, L))) :
    ∀ n h : Nat, h + n = 4 → (∀ k, k < h → hb D s k (qN D) = qd D k) → xi_V (xG L0 xs) 137 2 [some (Value.ref 37), some (Value.int (nI s)), some (Value.int (nI h)), none, none] [] (xSH, xRF, I, L) 0 0 Q
  | 0, h, hn', hk => by
    refine b_M_isByHeaps_2 (pk_le 4 h (fun c => ⟨by decide, hQ.1 (fun k hk2 => hk k (by omega))⟩) (fun c => absurd c (by omega)))
  | n + 1, h, hn', hk => by
    have h1 := hD0.2.2.2.2.1 h (by omega)
    have h2 := hn_le D h (qN D)
    have h3 := hD0.1.1
    refine b_M_isByHeaps_2 (pk_le 4 h (fun c => absurd c (by omega)) (fun c => ?_))
    refine c_mByH_in hD0.1 hI hD hs (by omega) ⟨fun e => c_mByH_lp hD0 hI hD hs hQ n (h + 1) (by omega) (fun k hk2 => ?_), fun e => hQ.2 (fun z => e (z h (by omega)))⟩ (by unfold hN at h1; omega) (qN D) 0 (Nat.zero_add _)
    by_cases e2 : k = h
    · subst e2; exact e
    · exact hk k (by omega)
theorem c_mByH (hD0 : okD D) (hI : mC I D) (hD : mD I D) {s : Nat} (hs : s < 2147483648)
    (hQ : (byH D s → Q (some (Value.int 1)) (xSH, xRF, I, L)) ∧ (¬ byH D s → Q (some (Value.int 0)) (xSH, xRF, I, L))) :
    xi_V (xG L0 xs) 137 0 [some (Value.ref 37), some (Value.int (nI s)), none, none, none] [] (xSH, xRF, I, L) 0 0 Q := b_M_isByHeaps_0 (c_mByH_lp hD0 hI hD hs hQ 4 0 rfl (fun k hk => absurd hk (Nat.not_lt_zero k)))
theorem c_mSetOf_lp (hC : okC D) (hI : mC I D) {h : Nat} (hh : h < 4) (hQ : Q (some (Value.int (nI (hS D h (qN D))))) (xSH, xRF, I, L)) :
    ∀ n i : Nat, i + n = qN D → xi_V (xG L0 xs) 155 4 [some (Value.ref 37), some (Value.int (nI h)), some (Value.int (nI (hS D h i))), some (Value.int (nI i))] [] (xSH, xRF, I, L) 0 0 Q
  | 0, i, hn' => by
    have h10 := hC.1
    refine b_M_setOf_4 ?_
    rw [hI.1]
    refine pk_le (qN D) i (fun c => ?_) (fun c => absurd c (by omega))
    rw [show i = qN D by omega]
    exact hQ
  | n + 1, i, hn' => by
    have h10 := hC.1
    refine b_M_setOf_4 ?_
    rw [hI.1]
    refine pk_le (qN D) i (fun c => absurd c (by omega)) (fun c => ⟨pk_in i 10 (by omega), ?_⟩)
    have hH := (hC.2 i c).2.2.1
    have ih := c_mSetOf_lp hC hI hh hQ n (i + 1) (by omega)
    rw [nI_clamp (by omega), (hI.2 i c).2.2.1]
    refine ⟨fun e => ?_, fun e => ?_⟩
    · rw [hS, if_neg (fun z => e (by rw [z])), Nat.add_zero] at ih
      rw [show (0 : Int32) = nI 0 from rfl, nI_or, Nat.or_zero, nI_1]
      exact ih
    · rw [nI_eq (by omega) (by omega)] at e
      rw [hS, if_pos e] at ih
      rw [sh_1 (by omega), nI_or, or_add (hS_lt D h i), nI_1]
      exact ih
theorem c_mSetOf (hC : okC D) (hI : mC I D) {h : Nat} (hh : h < 4) (hQ : Q (some (Value.int (nI (hS D h (qN D))))) (xSH, xRF, I, L)) :
    xi_V (xG L0 xs) 155 0 [some (Value.ref 37), some (Value.int (nI h)), none, none] [] (xSH, xRF, I, L) 0 0 Q := b_M_setOf_0 (c_mSetOf_lp hC hI hh hQ (qN D) 0 (Nat.zero_add _))
theorem bt_is1 {s i : Nat} : nI (bt s i) = (1 : Int32) ↔ bt s i = 1 := by
  rcases bt_01 s i with h | h <;> rw [h] <;> decide
theorem c_mOff_lp (hC : okC D) (hI : mC I D) {s : Nat} (hs : s < 2147483648) (hQ : Q (some (Value.long (zL (offD D s)))) (xSH, xRF, I, L)) :
    ∀ n i : Nat, i + n = qN D → xi_V (xG L0 xs) 154 8 [some (Value.ref 37), some (Value.int (nI s)), some (Value.long (zL (sqs D s i))), none, some (Value.long (zL (sws D s i))), none, some (Value.int (nI i))] [] (xSH, xRF, I, L) 0 0 Q
  | 0, i, hn' => by
    have h10 := hC.1
    refine b_M_off_8 ?_
    rw [hI.1]
    refine pk_le (qN D) i (fun c => c_mBits hs (b_M_off_70 ?_)) (fun c => absurd c (by omega))
    have hb := bc_le s 10
    rw [show i = qN D by omega, nI_L (by omega), zL_mul, zL_mul, zL_sub]
    exact hQ
  | n + 1, i, hn' => by
    have h10 := hC.1
    refine b_M_off_8 ?_
    rw [hI.1]
    refine pk_le (qN D) i (fun c => absurd c (by omega)) (fun c => ?_)
    have hW := (hC.2 i c).1
    have ih := c_mOff_lp hC hI hs hQ n (i + 1) (by omega)
    unfold sqs sws at ih ⊢
    rw [sm_s, sm_s] at ih
    rw [bt_I hs (by omega), bt_is1, nI_clamp (by omega), nI_1]
    refine ⟨fun e => ?_, fun e => ⟨pk_in i 10 (by omega), pk_in i 10 (by omega), pk_in i 10 (by omega), ?_⟩⟩
    · have e0 : bt s i = 0 := (bt_01 s i).resolve_right e
      rw [e0] at ih
      simp only [Int.natCast_zero, Int.zero_mul, Int.add_zero] at ih
      exact ih
    · rw [e] at ih
      rw [(hI.2 i c).1, zI_L (by omega) (by omega), zL_mul, zL_add, zL_add]
      simp only [Int.natCast_one, Int.one_mul] at ih
      exact ih
theorem c_mOff (hC : okC D) (hI : mC I D) {s : Nat} (hs : s < 2147483648) (hQ : Q (some (Value.long (zL (offD D s)))) (xSH, xRF, I, L)) :
    xi_V (xG L0 xs) 154 0 [some (Value.ref 37), some (Value.int (nI s)), none, none, none, none, none] [] (xSH, xRF, I, L) 0 0 Q := b_M_off_0 (c_mOff_lp hC hI hs hQ (qN D) 0 (Nat.zero_add _))
theorem c_mV (hC : okC D) (hI : mC I D) {h : Nat} (hh : h < 4) (hQ : Q (some (Value.long (zL (vD D h)))) (xSH, xRF, I, L)) :
    xi_V (xG L0 xs) 156 0 [some (Value.ref 37), some (Value.int (nI h)), none] [] (xSH, xRF, I, L) 0 0 Q := by
  have h10 := hC.1
  have hle := hn_le D h (qN D)
  have hlt := hS_lt D h (qN D)
  have hp := p2_lt h10.2
  unfold vD at hQ
  refine b_M_v_0 (c_mNamesOf hC hI hh (b_M_v_5 (pk_le 2 (hN D h) (fun c => ?_) (fun c => ?_) rfl rfl (by omega) (by unfold hN; omega))))
  · rw [if_neg (by omega)] at hQ
    refine c_mSetOf hC hI hh (b_M_v_23 (c_mOff hC hI (by omega) (b_M_v_26 ?_)))
    have e1 : (nI (hN D h) - 1).toInt64 = zL ((hN D h : Int) - 1) := by
      rw [show (1 : Int32) = zI 1 from rfl, zI_n, zI_sub, zI_L (by unfold hN; omega) (by unfold hN; omega)]
    rw [e1]
    refine ⟨fun z => ?_, ?_⟩
    · have := congrArg Int64.toInt z
      rw [zL_t (by unfold hN; omega) (by unfold hN; omega), m_z0] at this
      omega
    · rw [nI_L (by unfold hN; omega), l_2520, zL_div (by decide) (by decide) (by omega) (by unfold hN; omega), zL_mul, zL_mul]
      exact hQ
  · rw [if_pos (by omega)] at hQ
    exact hQ
theorem c_mAdds (hC : okC D) (hI : mC I D) {h n : Nat} (hh : h < 4) (hn : n ≤ 10) (hQ : Q (some (Value.long (zL (adD D h n)))) (xSH, xRF, I, L)) :
    xi_V (xG L0 xs) 159 0 [some (Value.ref 37), some (Value.int (nI h)), some (Value.int (nI n))] [] (xSH, xRF, I, L) 0 0 Q := by
  unfold adD at hQ
  refine b_M_adds_0 ⟨fun c => c_mV hC hI hh (b_M_adds_13 ?_), fun c => ?_⟩
  · have hn0 : n ≠ 0 := fun z => c (by rw [z]; rfl)
    rw [if_neg hn0] at hQ
    rw [nI_L (by omega)]
    refine ⟨fun z => ?_, ?_⟩
    · have := congrArg Int64.toInt z
      rw [zL_t (by omega) (by omega), m_z0] at this
      omega
    · rw [l_2520, zL_div (by decide) (by decide) (by omega) (by omega), zL_mul]
      exact hQ
  · have hn0 : n = 0 := by
      by_cases z : n = 0
      · exact z
      · exact absurd c (nI_ne0 (by omega) (by omega))
    rw [if_pos hn0] at hQ
    exact hQ
theorem c_mSome {n : Nat} (hn : n ≤ 10) (hQ : Q (some (Value.int (nI (if n = 0 then 0 else 1)))) (xSH, xRF, I, L)) : xi_V (xG L0 xs) 160 0 [some (Value.int (nI n))] [] (xSH, xRF, I, L) 0 0 Q := by
  refine b_M_some_0 ⟨fun c => ?_, fun c => ?_⟩
  · rw [if_neg (fun z => c (by rw [z]; rfl))] at hQ
    exact hQ
  · have hn0 : n = 0 := by
      by_cases z : n = 0
      · exact z
      · exact absurd c (nI_ne0 (by omega) (by omega))
    rw [if_pos hn0] at hQ
    exact hQ
end MD
