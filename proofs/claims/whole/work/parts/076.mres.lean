/-! the model's answers: both, set, sets, many, sum, mean, spread, heap -/
noncomputable def c2 (D : xD) (i j : Nat) : Int := sm (fun s => ((bt s i * bt s j : Nat) : Int) * wt D s) (2 ^ qN D)
noncomputable def tD (D : xD) (s m : Nat) : Int := sm (fun i => (bt s i : Int) * pc D i) m
noncomputable def cs (D : xD) : Nat → Nat
  | 0 => 0
  | s + 1 => cs D s + (if wt D s = 0 then 0 else 1)
noncomputable def mnD (D : xD) (m : Nat) : Int := sm (fun s => wt D s * (bc s 10 : Int)) m
noncomputable def fD (D : xD) (m : Nat) : Int := sm (fun s => tD D s (qN D) * wt D s) m
noncomputable def gD (D : xD) (m : Nat) : Int := sm (fun s => tD D s (qN D) * wt D s * tD D s (qN D)) m
/-- lowest terms -/
def rN (x y : Int) : Int := x / ((Int.gcd x y : Nat) : Int)
def rD (x y : Int) : Int := y / ((Int.gcd x y : Nat) : Int)
theorem cs_le (D : xD) : ∀ s, cs D s ≤ s
  | 0 => Nat.le_refl 0
  | s + 1 => by have := cs_le D s; rw [cs]; split <;> omega
theorem nI_and (a b : Nat) : nI a &&& nI b = nI (a &&& b) := by
  apply Int32.toBitVec_inj.1
  show BitVec.ofNat 32 a &&& BitVec.ofNat 32 b = BitVec.ofNat 32 (a &&& b)
  apply BitVec.eq_of_getLsbD_eq
  intro i hi
  simp [hi]
theorem and_m2 (a b : Nat) : (a &&& b) % 2 = a % 2 * (b % 2) := by
  have h := Nat.and_mod_two_pow (a := a) (b := b) (n := 1)
  rw [Nat.pow_one] at h
  rw [h]
  rcases Nat.mod_two_eq_zero_or_one a with e | e <;> rcases Nat.mod_two_eq_zero_or_one b with e2 | e2 <;> rw [e, e2] <;> decide
theorem bt_I2 {s i j : Nat} (hs : s < 2147483648) (hi : i < 32) (hj : j < 32) : ((nI s >>> (nI i &&& 31)) &&& (nI s >>> (nI j &&& 31))) &&& 1 = nI (bt s i * bt s j) := by
  have h1 : s / 2 ^ i ≤ s := Nat.div_le_self _ _
  have h2 : s / 2 ^ j ≤ s := Nat.div_le_self _ _
  have h3 : (s / 2 ^ i &&& s / 2 ^ j) ≤ s / 2 ^ i := Nat.and_le_left
  rw [pk_shrN (by omega) _ i (sh_l i hi), pk_shrN (by omega) _ j (sh_l j hj), nI_and, pk_andN (by omega) (m := 1) 1 (by decide)]
  rw [Nat.pow_one, and_m2]
  rfl
theorem bt2_01 (s i j : Nat) : bt s i * bt s j = 0 ∨ bt s i * bt s j = 1 := by
  rcases bt_01 s i with e | e <;> rcases bt_01 s j with e2 | e2 <;> rw [e, e2] <;> decide
theorem tD_b {D : xD} {A P : Int} (hC : okC D) (hB : okB D A P) (s : Nat) {m : Nat} (hm : m ≤ qN D) : -(1000 * P) ≤ tD D s m ∧ tD D s m ≤ 1000 * P := by
  have hP := hB.2.1
  have h10 := hC.1.2
  have := sm_bound (f := fun i => (bt s i : Int) * pc D i) (c := 100 * P) (n := m) (fun k hk => by
    have := pc_b hC hB (show k < qN D by omega)
    show -(100 * P) ≤ (bt s k : Int) * pc D k ∧ (bt s k : Int) * pc D k ≤ 100 * P
    rcases bt_01 s k with z | z <;> rw [z] <;> simp <;> omega)
  unfold tD
  have h2 : (m : Int) * (100 * P) ≤ 10 * (100 * P) := Int.mul_le_mul_of_nonneg_right (by omega) (by omega)
  omega
theorem wt_A {D : xD} {A P : Int} (hB : okB D A P) {m : Nat} (hm : m ≤ 2 ^ qN D) : 0 ≤ sm (wt D) m ∧ sm (wt D) m ≤ A := by
  refine ⟨sm_nn (fun k _ => hB.2.2.2.1 k), ?_⟩
  have h2 := sm_mono (f := wt D) (m := m) (2 ^ qN D - m) (fun k _ => hB.2.2.2.1 k)
  rw [show m + (2 ^ qN D - m) = 2 ^ qN D by omega] at h2
  exact Int.le_trans h2 hB.2.2.2.2.1
theorem wt_A1 {D : xD} {A P : Int} (hB : okB D A P) {s : Nat} (hs : s < 2 ^ qN D) : 0 ≤ wt D s ∧ wt D s ≤ A := ⟨hB.2.2.2.1 s, Int.le_trans (sm_part (f := wt D) (fun k _ => hB.2.2.2.1 k) hs) hB.2.2.2.2.1⟩
/-- a sum with weights -/
theorem smw_b {w t : Nat → Int} {T A : Int} {m : Nat} (hT : 0 ≤ T) (hw : ∀ k, 0 ≤ w k) (hA : sm w m ≤ A) (ht : ∀ k, -T ≤ t k ∧ t k ≤ T) : -(A * T) ≤ sm (fun k => t k * w k) m ∧ sm (fun k => t k * w k) m ≤ A * T := by
  have h1 : sm (fun k => t k * w k) m ≤ sm (fun k => T * w k) m := sm_le (fun k _ => Int.mul_le_mul_of_nonneg_right (ht k).2 (hw k))
  have h2 : sm (fun k => (-T) * w k) m ≤ sm (fun k => t k * w k) m := sm_le (fun k _ => Int.mul_le_mul_of_nonneg_right (ht k).1 (hw k))
  rw [sm_mul] at h1 h2
  have h3 : T * sm w m ≤ T * A := Int.mul_le_mul_of_nonneg_left hA hT
  rw [Int.neg_mul] at h2
  rw [Int.mul_comm A T]
  omega
theorem mulS {x y A B : Int} (h1 : -A ≤ x ∧ x ≤ A) (h2 : -B ≤ y ∧ y ≤ B) : -(A * B) ≤ x * y ∧ x * y ≤ A * B := by
  have := mulb (x := (x.natAbs : Int)) (y := (y.natAbs : Int)) (A := A) (B := B) (by omega) (by omega)
  have e : ((x * y).natAbs : Int) = (x.natAbs : Int) * (y.natAbs : Int) := by rw [Int.natAbs_mul, Int.natCast_mul]
  omega
theorem fD_b {D : xD} {A P : Int} (hC : okC D) (hB : okB D A P) {m : Nat} (hm : m ≤ 2 ^ qN D) : -(A * (1000 * P)) ≤ fD D m ∧ fD D m ≤ A * (1000 * P) :=
  smw_b (by have := hB.2.1; omega) hB.2.2.2.1 (wt_A hB hm).2 (fun k => tD_b hC hB k (Nat.le_refl _))
theorem gD_b {D : xD} {A P : Int} (hC : okC D) (hB : okB D A P) {m : Nat} (hm : m ≤ 2 ^ qN D) : -(A * (1000 * P) * (1000 * P)) ≤ gD D m ∧ gD D m ≤ A * (1000 * P) * (1000 * P) := by
  have hP := hB.2.1
  have h := smw_b (w := wt D) (t := fun k => tD D k (qN D) * tD D k (qN D)) (T := (1000 * P) * (1000 * P)) (A := A) (m := m) (Int.mul_nonneg (by omega) (by omega)) hB.2.2.2.1 (wt_A hB hm).2 (fun k => mulS (tD_b hC hB k (Nat.le_refl _)) (tD_b hC hB k (Nat.le_refl _)))
  unfold gD
  rw [sm_cong (g := fun k => tD D k (qN D) * tD D k (qN D) * wt D k) (fun k _ => by rw [Int.mul_right_comm]), Int.mul_assoc A]
  exact h
theorem kF_C {I I' : Nat → Nat → Int32} {D : xD} (h : kF I I') (hI : mC I D) : mC I' D := by
  rcases h with e | e <;> subst e
  · exact hI
  · exact mC_u (by decide) hI
theorem kF_D {I I' : Nat → Nat → Int32} {D : xD} (h : kF I I') (hI : mD I D) : mD I' D := by
  rcases h with e | e <;> subst e
  · exact hI
  · exact mD_u (by decide) hI
/-- rows that know wrote stay -/
theorem mKn_K {S : Nat → Prop} {f g : Nat → Int64} {D : xD} (hk : mK S f g) (hs : ∀ c, S c → c < 11) (h : mKn f D) : mKn g D := by
  have ns : ∀ c, ¬ c < 11 → ¬ S c := fun c hc hs2 => hc (hs c hs2)
  exact ⟨hk _ _ (ns _ (by omega)) h.1, hk _ _ (ns _ (by omega)) h.2.1, fun i hi => ⟨hk _ _ (ns _ (by omega)) (h.2.2.1 i hi).1, hk _ _ (ns _ (by omega)) (h.2.2.1 i hi).2.1, hk _ _ (ns _ (by omega)) (h.2.2.1 i hi).2.2⟩, fun s hs => hk _ _ (ns _ (by omega)) (h.2.2.2 s hs)⟩
section MR
variable {L0 : Nat} {xs : Nat → Int32} {Q : xiQ} {I : Nat → Nat → Int32} {L : Nat → Nat → Int64} {f p q r : Nat → Int64}
variable {D : xD}
theorem c_mIsName1 (hC : okC D) (hI : mC I D) {i : Nat} (hi : i < qN D) (hQ : Q (some (Value.int 1)) (xSH, xRF, I, L)) : xi_V (xG L0 xs) 132 0 [some (Value.ref 37), some (Value.int (nI i))] [] (xSH, xRF, I, L) 0 0 Q := by
  have h10 := hC.1
  refine b_M_isName_0 ?_
  rw [hI.1]
  exact ⟨fun c => absurd c (nI_pos (by omega)), fun _ => pk_le (qN D) i (fun c => absurd c (by omega)) (fun _ => ⟨by decide, hQ⟩)⟩
theorem c_mIsName0 (hI : mC I D) {v : Int32} (hv : v < 0 ∨ nI (qN D) ≤ v) (hQ : Q (some (Value.int 0)) (xSH, xRF, I, L)) : xi_V (xG L0 xs) 132 0 [some (Value.ref 37), some (Value.int v)] [] (xSH, xRF, I, L) 0 0 Q := by
  refine b_M_isName_0 ?_
  rw [hI.1]
  refine ⟨fun _ => ⟨by decide, hQ⟩, fun c => ⟨fun _ => ⟨by decide, hQ⟩, fun c2 => absurd (hv.resolve_left c) c2⟩⟩
theorem c_mIsSet1 (hC : okC D) (hI : mC I D) {s : Nat} (hs : s < 2 ^ qN D) (hQ : Q (some (Value.int 1)) (xSH, xRF, I, L)) : xi_V (xG L0 xs) 145 0 [some (Value.ref 37), some (Value.int (nI s))] [] (xSH, xRF, I, L) 0 0 Q := by
  have h10 := hC.1
  have hp := p2_lt h10.2
  refine b_M_isSet_0 ?_
  rw [hI.1, sh_1 (by omega)]
  exact ⟨fun c => absurd c (nI_pos (by omega)), fun _ => pk_le (2 ^ qN D) s (fun c => absurd c (by omega)) (fun _ => ⟨by decide, hQ⟩)⟩
theorem c_mIsSet0 (hC : okC D) (hI : mC I D) {v : Int32} (hv : v < 0 ∨ nI (2 ^ qN D) ≤ v) (hQ : Q (some (Value.int 0)) (xSH, xRF, I, L)) : xi_V (xG L0 xs) 145 0 [some (Value.ref 37), some (Value.int v)] [] (xSH, xRF, I, L) 0 0 Q := by
  have h10 := hC.1
  refine b_M_isSet_0 ?_
  rw [hI.1, sh_1 (by omega)]
  refine ⟨fun _ => ⟨by decide, hQ⟩, fun c => ⟨fun _ => ⟨by decide, hQ⟩, fun c2 => absurd (hv.resolve_left c) c2⟩⟩
theorem c_mIsHeap1 {h : Nat} (hh : h < 4) (hQ : Q (some (Value.int 1)) (xSH, xRF, I, L)) : xi_V (xG L0 xs) 131 0 [some (Value.int (nI h))] [] (xSH, xRF, I, L) 0 0 Q :=
  b_M_isHeap_0 ⟨fun c => absurd c (nI_pos (by omega)), fun _ => pk_lt 3 h (fun c => absurd c (by omega)) (fun _ => ⟨by decide, hQ⟩)⟩
theorem c_mIsHeap0 {v : Int32} (hv : v < 0 ∨ 3 < v) (hQ : Q (some (Value.int 0)) (xSH, xRF, I, L)) : xi_V (xG L0 xs) 131 0 [some (Value.int v)] [] (xSH, xRF, I, L) 0 0 Q :=
  b_M_isHeap_0 ⟨fun _ => ⟨by decide, hQ⟩, fun c => ⟨fun _ => ⟨by decide, hQ⟩, fun c2 => absurd (hv.resolve_left c) c2⟩⟩
theorem c_mBoth_lp {A P : Int} (hC : okC D) (hB : okB D A P) (hI : mC I D) {i j : Nat} (hi : i < qN D) (hj : j < qN D) (hw : mKn f D)
    (hQ : ∀ g, mK (fun c => c = 7) f g → Nm g 7 (c2 D i j) → xi_V (xG L0 xs) 124 0 [some (Value.ref 37), some (Value.int ((7 : Int32))), some (Value.int ((11 : Int32))), none, none, none] [] (xSH, xRF, I, mL L g p q r) 0 0 (fun o σ' => xi_V (xG L0 xs) 144 79 [some (Value.ref 37), some (Value.int (nI i)), some (Value.int (nI j)), some (Value.int (nI (2 ^ qN D)))] (o.toList ++ []) σ' 0 0 Q)) :
    ∀ (n s : Nat) (g : Nat → Int64), s + n = 2 ^ qN D → mK (fun c => c = 7) f g → Nm g 7 (sm (fun s => ((bt s i * bt s j : Nat) : Int) * wt D s) s) → xi_V (xG L0 xs) 144 31 [some (Value.ref 37), some (Value.int (nI i)), some (Value.int (nI j)), some (Value.int (nI s))] [] (xSH, xRF, I, mL L g p q r) 0 0 Q := by
  have h10 := hC.1
  have hp := p2_lt h10.2
  have hb := okB_big hB
  intro n
  induction n with
  | zero =>
    intro s g hn hk h7
    refine b_M_both_31 ?_
    rw [hI.1, sh_1 (by omega)]
    refine pk_le (2 ^ qN D) s (fun c => ?_) (fun c => absurd c (by omega))
    rw [show s = 2 ^ qN D by omega] at h7 ⊢
    exact hQ g hk h7
  | succ n ih =>
    intro s g hn hk h7
    refine b_M_both_31 ?_
    rw [hI.1, sh_1 (by omega), bt_I2 (by omega) (by omega) (by omega), show (43 : Int32) = nI 43 from rfl, nI_add]
    have e01 : nI (bt s i * bt s j) = (1 : Int32) ↔ bt s i * bt s j = 1 := by
      rcases bt2_01 s i j with h | h <;> rw [h] <;> decide
    rw [e01]
    refine pk_le (2 ^ qN D) s (fun c => absurd c (by omega)) (fun c => ⟨fun e => b_M_both_65 ?_, fun e => ?_⟩)
    · rw [nI_1]
      refine ih (s + 1) g (by omega) hk ?_
      rw [sm_s, (bt2_01 s i j).resolve_right e, Int.natCast_zero, Int.zero_mul, Int.add_zero]
      exact h7
    · have hs1 : 0 ≤ sm (fun s => ((bt s i * bt s j : Nat) : Int) * wt D s) (s + 1) ∧ sm (fun s => ((bt s i * bt s j : Nat) : Int) * wt D s) (s + 1) ≤ A := by
        refine ⟨sm_nn (fun k _ => Int.mul_nonneg (Int.natCast_nonneg _) (hB.2.2.2.1 k)), ?_⟩
        have h1 : sm (fun s => ((bt s i * bt s j : Nat) : Int) * wt D s) (s + 1) ≤ sm (wt D) (s + 1) := sm_le (fun k _ => by
          have := hB.2.2.2.1 k
          show ((bt k i * bt k j : Nat) : Int) * wt D k ≤ wt D k
          rcases bt2_01 k i j with z | z <;> rw [z] <;> simp <;> omega)
        exact Int.le_trans h1 (wt_A hB (by omega)).2
      have e1 : sm (fun s => ((bt s i * bt s j : Nat) : Int) * wt D s) s + wt D s * (1 : Int64).toInt = sm (fun s => ((bt s i * bt s j : Nat) : Int) * wt D s) (s + 1) := by
        rw [sm_s, e, m_1L, Int.natCast_one, Int.one_mul, Int.mul_one]
      refine c_more (a := 7) (b := 43 + s) (by decide) (by omega) (by omega) (w := 1) h7 (hk _ _ (by omega) (hw.2.2.2 s c)) (by decide) ?_ ?_ (fun g1 m1 n1 => b_M_both_65 ?_)
      · rw [e1]; generalize nB ^ 43 = B at *; omega
      · rw [e1]; generalize nB ^ 43 = B at *; omega
      · rw [e1] at n1
        rw [nI_1]
        exact ih (s + 1) g1 (by omega) (mK_tr hk (mK_F m1 rfl)) n1
/-- both(i, j) -/
theorem c_mBoth {A P u w : Int} (hD0 : okD D) (hB : okB D A P) (hI : mC I D) (hD : mD I D) (h0 : Nm f 0 u) (h1 : Nm f 1 w) (hk : ¬ I 37 1 = 0 → mKn f D) {i j : Nat} (hi : i < qN D) (hj : j < qN D)
    (hQ : ∀ I' g p' q' r', kF I I' → mKn g D → Nm g 0 (rN (c2 D i j) (al D)) → Nm g 1 (rD (c2 D i j) (al D)) → Q (some (Value.int 1)) (xSH, xRF, I', mL L g p' q' r')) :
    xi_V (xG L0 xs) 144 0 [some (Value.ref 37), some (Value.int (nI i)), some (Value.int (nI j)), none] [] (xSH, xRF, I, mL L f p q r) 0 0 Q := by
  have hb := okB_big hB
  refine b_M_both_0 (c_mIsName1 hD0.1 hI hi (b_M_both_5 ⟨fun c => absurd c (by decide), fun _ => c_mIsName1 hD0.1 hI hj (b_M_both_13 ⟨fun _ => ?_, fun c => absurd c (by decide)⟩)⟩))
  refine c_mKnow hD0 hB hI hD h0 h1 hk (fun I' g1 p1 q1 r1 kf _ k1 kn1 => b_M_both_22 ?_)
  refine c_put (a := 7) (by decide) (w := 0) (by decide) (fun g2 m2 n2 => b_M_both_29 ?_)
  have kn2 := mKn_K (mK_F (S := fun c => c = 7) m2 rfl) (fun c hc => by omega) kn1
  refine c_mBoth_lp hD0.1 hB (kF_C kf hI) hi hj kn2 (fun g3 k3 n3 => ?_) (2 ^ qN D) 0 g2 (Nat.zero_add _) mK_rf (by rw [m_z0] at n2; exact n2)
  have kn3 := mKn_K k3 (fun c hc => by omega) kn2
  have hc2 : 0 ≤ c2 D i j := sm_nn (fun k _ => Int.mul_nonneg (Int.natCast_nonneg _) (hB.2.2.2.1 k))
  refine c_result (a := 7) (b := 11) (by decide) (by decide) (by decide) (by decide) n3 kn3.1 (by have := nB_pow 43; generalize nB ^ 43 = B at *; omega) hB.2.2.2.2.2.1.1 (fun g4 p4 q4 r4 k4 t4 b4 => b_M_both_79 ⟨by decide, hQ I' g4 p4 q4 r4 kf (mKn_K k4 (fun c hc => by omega) kn3) t4 b4⟩)
theorem c_mBoth0 (hC : okC D) (hI : mC I D) {v w : Int32} (hv : (v < 0 ∨ nI (qN D) ≤ v) ∨ (w < 0 ∨ nI (qN D) ≤ w)) (hQ : Q (some (Value.int 0)) (xSH, xRF, I, L)) : xi_V (xG L0 xs) 144 0 [some (Value.ref 37), some (Value.int v), some (Value.int w), none] [] (xSH, xRF, I, L) 0 0 Q := by
  have h10 := hC.1
  by_cases e : v < 0 ∨ nI (qN D) ≤ v
  · exact b_M_both_0 (c_mIsName0 hI e (b_M_both_5 ⟨fun _ => ⟨by decide, hQ⟩, fun c => absurd rfl c⟩))
  · have e2 := hv.resolve_left e
    rcases pk_ix v (n := qN D) (by omega) with z | z | ⟨j, hj, ej⟩
    · exact absurd (Or.inl z) e
    · exact absurd (Or.inr z) e
    · subst ej
      exact b_M_both_0 (c_mIsName1 hC hI hj (b_M_both_5 ⟨fun c => absurd c (by decide), fun _ => c_mIsName0 hI e2 (b_M_both_13 ⟨fun c => absurd rfl c, fun _ => ⟨by decide, hQ⟩⟩)⟩))
/-- set(s) -/
theorem c_mSet {A P u w : Int} (hD0 : okD D) (hB : okB D A P) (hI : mC I D) (hD : mD I D) (h0 : Nm f 0 u) (h1 : Nm f 1 w) (hk : ¬ I 37 1 = 0 → mKn f D) {s : Nat} (hs : s < 2 ^ qN D)
    (hQ : ∀ I' g p' q' r', kF I I' → mKn g D → Nm g 0 (rN (wt D s) (al D)) → Nm g 1 (rD (wt D s) (al D)) → Q (some (Value.int 1)) (xSH, xRF, I', mL L g p' q' r')) :
    xi_V (xG L0 xs) 146 0 [some (Value.ref 37), some (Value.int (nI s))] [] (xSH, xRF, I, mL L f p q r) 0 0 Q := by
  have h10 := hD0.1.1
  have hp := p2_lt h10.2
  refine b_M_set_0 (c_mIsSet1 hD0.1 hI hs (b_M_set_5 ⟨fun _ => ?_, fun c => absurd c (by decide)⟩))
  refine c_mKnow hD0 hB hI hD h0 h1 hk (fun I' g1 p1 q1 r1 kf _ k1 kn1 => b_M_set_14 ?_)
  rw [show (43 : Int32) = nI 43 from rfl, nI_add]
  have hw := (wt_A1 hB hs).1
  refine c_result (a := 43 + s) (b := 11) (by omega) (by omega) (by decide) (by decide) (kn1.2.2.2 s hs) kn1.1 (by have := nB_pow 43; generalize nB ^ 43 = B at *; omega) hB.2.2.2.2.2.1.1 (fun g4 p4 q4 r4 k4 t4 b4 => b_M_set_24 ⟨by decide, hQ I' g4 p4 q4 r4 kf (mKn_K k4 (fun c hc => by omega) kn1) t4 b4⟩)
theorem c_mSet0 (hC : okC D) (hI : mC I D) {v : Int32} (hv : v < 0 ∨ nI (2 ^ qN D) ≤ v) (hQ : Q (some (Value.int 0)) (xSH, xRF, I, L)) : xi_V (xG L0 xs) 146 0 [some (Value.ref 37), some (Value.int v)] [] (xSH, xRF, I, L) 0 0 Q :=
  b_M_set_0 (c_mIsSet0 hC hI hv (b_M_set_5 ⟨fun c => absurd rfl c, fun _ => ⟨by decide, hQ⟩⟩))
theorem c_mSets_lp (hC : okC D) (hI : mC I D) (hw : mKn f D) (hQ : Q (some (Value.int (nI (cs D (2 ^ qN D))))) (xSH, xRF, I, mL L f p q r)) :
    ∀ n s : Nat, s + n = 2 ^ qN D → xi_V (xG L0 xs) 147 8 [some (Value.ref 37), some (Value.int (nI (cs D s))), some (Value.int (nI s))] [] (xSH, xRF, I, mL L f p q r) 0 0 Q := by
  have h10 := hC.1
  have hp := p2_lt h10.2
  intro n
  induction n with
  | zero =>
    intro s hn
    refine b_M_sets_8 ?_
    rw [hI.1, sh_1 (by omega)]
    refine pk_le (2 ^ qN D) s (fun c => ?_) (fun c => absurd c (by omega))
    rw [show s = 2 ^ qN D by omega]
    exact hQ
  | succ n ih =>
    intro s hn
    refine b_M_sets_8 ?_
    rw [hI.1, sh_1 (by omega), show (43 : Int32) = nI 43 from rfl, nI_add]
    refine pk_le (2 ^ qN D) s (fun c => absurd c (by omega)) (fun c => ?_)
    refine c_isZero (a := 43 + s) (by omega) (hw.2.2.2 s c) ?_
    have := ih (s + 1) (by omega)
    rw [cs] at this
    by_cases e : wt D s = 0
    · rw [if_pos e] at this ⊢
      refine b_M_sets_27 ⟨fun c => absurd c (by decide), fun _ => ?_⟩
      rw [show (0 : Int32) = nI 0 from rfl, nI_add, nI_1]
      exact this
    · rw [if_neg e] at this ⊢
      refine b_M_sets_27 ⟨fun _ => ?_, fun c => absurd rfl c⟩
      rw [nI_1, nI_1]
      exact this
theorem c_mSets {A P u w : Int} (hD0 : okD D) (hB : okB D A P) (hI : mC I D) (hD : mD I D) (h0 : Nm f 0 u) (h1 : Nm f 1 w) (hk : ¬ I 37 1 = 0 → mKn f D)
    (hQ : ∀ I' g p' q' r', kF I I' → mKn g D → Nm g 0 u → Nm g 1 w → Q (some (Value.int (nI (cs D (2 ^ qN D))))) (xSH, xRF, I', mL L g p' q' r')) :
    xi_V (xG L0 xs) 147 0 [some (Value.ref 37), none, none] [] (xSH, xRF, I, mL L f p q r) 0 0 Q := by
  refine b_M_sets_0 (c_mKnow hD0 hB hI hD h0 h1 hk (fun I' g1 p1 q1 r1 kf _ k1 kn1 => b_M_sets_4 ?_))
  exact c_mSets_lp hD0.1 (kF_C kf hI) kn1 (hQ I' g1 p1 q1 r1 kf kn1 (k1 0 _ (by omega) h0) (k1 1 _ (by omega) h1)) (2 ^ qN D) 0 (Nat.zero_add _)
end MR
