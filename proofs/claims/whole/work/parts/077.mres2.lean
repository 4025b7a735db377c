/-! many, sum, mean, spread, heap of the model -/
section MR2
variable {L0 : Nat} {xs : Nat → Int32} {Q : xiQ} {I : Nat → Nat → Int32} {L : Nat → Nat → Int64} {f p q r : Nat → Int64}
variable {D : xD}
theorem c_mMany_lp {A P : Int} (hC : okC D) (hB : okB D A P) (hI : mC I D) (hw : mKn f D)
    (hQ : ∀ g, mK (fun c => c = 7) f g → Nm g 7 (mnD D (2 ^ qN D)) → xi_V (xG L0 xs) 124 0 [some (Value.ref 37), some (Value.int ((7 : Int32))), some (Value.int ((11 : Int32))), none, none, none] [] (xSH, xRF, I, mL L g p q r) 0 0 (fun o σ' => xi_V (xG L0 xs) 148 52 [some (Value.ref 37), some (Value.int (nI (2 ^ qN D)))] (o.toList ++ []) σ' 0 0 Q)) :
    ∀ (n s : Nat) (g : Nat → Int64), s + n = 2 ^ qN D → mK (fun c => c = 7) f g → Nm g 7 (mnD D s) → xi_V (xG L0 xs) 148 13 [some (Value.ref 37), some (Value.int (nI s))] [] (xSH, xRF, I, mL L g p q r) 0 0 Q := by
  have h10 := hC.1
  have hp := p2_lt h10.2
  have hb := okB_big hB
  intro n
  induction n with
  | zero =>
    intro s g hn hk h7
    refine b_M_many_13 ?_
    rw [hI.1, sh_1 (by omega)]
    refine pk_le (2 ^ qN D) s (fun c => ?_) (fun c => absurd c (by omega))
    rw [show s = 2 ^ qN D by omega] at h7 ⊢
    exact hQ g hk h7
  | succ n ih =>
    intro s g hn hk h7
    refine b_M_many_13 ?_
    rw [hI.1, sh_1 (by omega), show (43 : Int32) = nI 43 from rfl, nI_add]
    refine pk_le (2 ^ qN D) s (fun c => absurd c (by omega)) (fun c => ?_)
    refine c_mBits (by omega) (b_M_many_34 ?_)
    have hbc := bc_le s 10
    have ebc : ((nI (bc s 10)).toInt64).toInt = (bc s 10 : Int) := by rw [nI_L (by omega), zL_t (by omega) (by omega)]
    have e1 : mnD D s + wt D s * ((nI (bc s 10)).toInt64).toInt = mnD D (s + 1) := by rw [ebc]; rfl
    have hs1 : 0 ≤ mnD D (s + 1) ∧ mnD D (s + 1) ≤ A * 10 := by
      refine ⟨sm_nn (fun k _ => Int.mul_nonneg (hB.2.2.2.1 k) (Int.natCast_nonneg _)), ?_⟩
      have h1 : mnD D (s + 1) ≤ sm (fun k => wt D k * 10) (s + 1) := sm_le (fun k _ => Int.mul_le_mul_of_nonneg_left (by have := bc_le k 10; omega) (hB.2.2.2.1 k))
      rw [sm_mul'] at h1
      have := (wt_A hB (show s + 1 ≤ 2 ^ qN D by omega)).2
      omega
    have hA10 : A * 10 ≤ A * (1000 * P) := Int.mul_le_mul_of_nonneg_left (by have := hB.2.1; omega) (by have := hB.1; omega)
    refine c_more (a := 7) (b := 43 + s) (by decide) (by omega) (by omega) (w := (nI (bc s 10)).toInt64) h7 (hk _ _ (by omega) (hw.2.2.2 s c)) (by rw [ebc]; omega) ?_ ?_ (fun g1 m1 n1 => b_M_many_38 ?_)
    · rw [e1]; generalize nB ^ 43 = B at *; omega
    · rw [e1]; generalize nB ^ 43 = B at *; omega
    · rw [e1] at n1
      rw [nI_1]
      exact ih (s + 1) g1 (by omega) (mK_tr hk (mK_F m1 rfl)) n1
theorem c_mMany {A P u w : Int} (hD0 : okD D) (hB : okB D A P) (hI : mC I D) (hD : mD I D) (h0 : Nm f 0 u) (h1 : Nm f 1 w) (hk : ¬ I 37 1 = 0 → mKn f D)
    (hQ : ∀ I' g p' q' r', kF I I' → mKn g D → Nm g 0 (rN (mnD D (2 ^ qN D)) (al D)) → Nm g 1 (rD (mnD D (2 ^ qN D)) (al D)) → Q none (xSH, xRF, I', mL L g p' q' r')) :
    xi_V (xG L0 xs) 148 0 [some (Value.ref 37), none] [] (xSH, xRF, I, mL L f p q r) 0 0 Q := by
  refine b_M_many_0 (c_mKnow hD0 hB hI hD h0 h1 hk (fun I' g1 p1 q1 r1 kf _ k1 kn1 => b_M_many_4 ?_))
  refine c_put (a := 7) (by decide) (w := 0) (by decide) (fun g2 m2 n2 => b_M_many_11 ?_)
  have kn2 := mKn_K (mK_F (S := fun c => c = 7) m2 rfl) (fun c hc => by omega) kn1
  refine c_mMany_lp hD0.1 hB (kF_C kf hI) kn2 (fun g3 k3 n3 => ?_) (2 ^ qN D) 0 g2 (Nat.zero_add _) mK_rf (by rw [m_z0] at n2; exact n2)
  have kn3 := mKn_K k3 (fun c hc => by omega) kn2
  have hc2 : 0 ≤ mnD D (2 ^ qN D) := sm_nn (fun k _ => Int.mul_nonneg (hB.2.2.2.1 k) (Int.natCast_nonneg _))
  exact c_result (a := 7) (b := 11) (by decide) (by decide) (by decide) (by decide) n3 kn3.1 (by have := nB_pow 43; generalize nB ^ 43 = B at *; omega) hB.2.2.2.2.2.1.1 (fun g4 p4 q4 r4 k4 t4 b4 => b_M_many_52 (hQ I' g4 p4 q4 r4 kf (mKn_K k4 (fun c hc => by omega) kn3) t4 b4))
theorem c_mTold_lp {A P : Int} (hC : okC D) (hB : okB D A P) (hI : mC I D) (hw : mKn f D) {s : Nat} (hs : s < 1024)
    (hQ : ∀ g, mK (fun c => c = 6) f g → Nm g 6 (tD D s (qN D)) → Q none (xSH, xRF, I, mL L g p q r)) :
    ∀ (n i : Nat) (g : Nat → Int64), i + n = qN D → mK (fun c => c = 6) f g → Nm g 6 (tD D s i) → xi_V (xG L0 xs) 149 9 [some (Value.ref 37), some (Value.int (nI s)), some (Value.int (nI i))] [] (xSH, xRF, I, mL L g p q r) 0 0 Q := by
  have h10 := hC.1
  have hb := okB_big hB
  intro n
  induction n with
  | zero =>
    intro i g hn hk h6
    refine b_M_toldSum_9 ?_
    rw [hI.1]
    refine pk_le (qN D) i (fun c => ?_) (fun c => absurd c (by omega))
    rw [show i = qN D by omega] at h6
    exact hQ g hk h6
  | succ n ih =>
    intro i g hn hk h6
    refine b_M_toldSum_9 ?_
    rw [hI.1, bt_I (by omega) (by omega), bt_is1, show (33 : Int32) = nI 33 from rfl, nI_add]
    refine pk_le (qN D) i (fun c => absurd c (by omega)) (fun c => ⟨fun e => b_M_toldSum_37 ?_, fun e => ?_⟩)
    · rw [nI_1]
      refine ih (i + 1) g (by omega) hk ?_
      unfold tD
      rw [sm_s, (bt_01 s i).resolve_right e, Int.natCast_zero, Int.zero_mul, Int.add_zero]
      exact h6
    · have hb1 := tD_b hC hB s (show i + 1 ≤ qN D by omega)
      have e1 : tD D s i + pc D i * (1 : Int64).toInt = tD D s (i + 1) := by
        unfold tD
        rw [sm_s, e, m_1L, Int.natCast_one, Int.one_mul, Int.mul_one]
      refine c_more (a := 6) (b := 33 + i) (by decide) (by omega) (by omega) (w := 1) h6 (hk _ _ (by omega) (hw.2.2.1 i c).2.2) (by decide) ?_ ?_ (fun g1 m1 n1 => b_M_toldSum_37 ?_)
      · rw [e1]; generalize nB ^ 43 = B at *; omega
      · rw [e1]; generalize nB ^ 43 = B at *; omega
      · rw [e1] at n1
        rw [nI_1]
        exact ih (i + 1) g1 (by omega) (mK_tr hk (mK_F m1 rfl)) n1
/-- toldSum(s): row 6 -/
theorem c_mTold {A P : Int} (hC : okC D) (hB : okB D A P) (hI : mC I D) (hw : mKn f D) {s : Nat} (hs : s < 1024)
    (hQ : ∀ g, mK (fun c => c = 6) f g → Nm g 6 (tD D s (qN D)) → Q none (xSH, xRF, I, mL L g p q r)) :
    xi_V (xG L0 xs) 149 0 [some (Value.ref 37), some (Value.int (nI s)), none] [] (xSH, xRF, I, mL L f p q r) 0 0 Q := by
  refine b_M_toldSum_0 (c_put (a := 6) (by decide) (w := 0) (by decide) (fun g2 m2 n2 => b_M_toldSum_7 ?_))
  have k2 : mK (fun c => c = 6) f g2 := mK_F m2 rfl
  exact c_mTold_lp hC hB hI (mKn_K k2 (fun c hc => by omega) hw) hs (fun g k h => hQ g (mK_tr k2 k) h) (qN D) 0 g2 (Nat.zero_add _) mK_rf (by rw [m_z0] at n2; exact n2)
theorem c_mSum {A P u w : Int} (hD0 : okD D) (hB : okB D A P) (hI : mC I D) (hD : mD I D) (h0 : Nm f 0 u) (h1 : Nm f 1 w) (hk : ¬ I 37 1 = 0 → mKn f D) {s : Nat} (hs : s < 2 ^ qN D)
    (hQ : ∀ I' g p' q' r', kF I I' → mKn g D → Nm g 0 (rN (tD D s (qN D)) (cmn D (qN D))) → Nm g 1 (rD (tD D s (qN D)) (cmn D (qN D))) → Q (some (Value.int 1)) (xSH, xRF, I', mL L g p' q' r')) :
    xi_V (xG L0 xs) 150 0 [some (Value.ref 37), some (Value.int (nI s))] [] (xSH, xRF, I, mL L f p q r) 0 0 Q := by
  have hp := p2_lt hD0.1.1.2
  have hb := okB_big hB
  refine b_M_sum_0 (c_mIsSet1 hD0.1 hI hs (b_M_sum_5 ⟨fun _ => ?_, fun c => absurd c (by decide)⟩))
  refine c_mKnow hD0 hB hI hD h0 h1 hk (fun I' g1 p1 q1 r1 kf _ k1 kn1 => b_M_sum_14 ?_)
  refine c_mTold hD0.1 hB (kF_C kf hI) kn1 (by omega) (fun g2 k2 n2 => b_M_sum_19 ?_)
  have kn2 := mKn_K k2 (fun c hc => by omega) kn1
  have ht := tD_b hD0.1 hB s (Nat.le_refl _)
  have hcm := hB.2.2.2.2.2.2.2.1 (qN D) (Nat.le_refl _)
  exact c_result (a := 6) (b := 12) (by decide) (by decide) (by decide) (by decide) n2 kn2.2.1 (by have := nB_pow 43; generalize nB ^ 43 = B at *; omega) (by clear hb; omega) (fun g4 p4 q4 r4 k4 t4 b4 => b_M_sum_27 ⟨by decide, hQ I' g4 p4 q4 r4 kf (mKn_K k4 (fun c hc => by omega) kn2) t4 b4⟩)
theorem c_mSum0 (hC : okC D) (hI : mC I D) {v : Int32} (hv : v < 0 ∨ nI (2 ^ qN D) ≤ v) (hQ : Q (some (Value.int 0)) (xSH, xRF, I, L)) : xi_V (xG L0 xs) 150 0 [some (Value.ref 37), some (Value.int v)] [] (xSH, xRF, I, L) 0 0 Q :=
  b_M_sum_0 (c_mIsSet0 hC hI hv (b_M_sum_5 ⟨fun c => absurd rfl c, fun _ => ⟨by decide, hQ⟩⟩))
theorem c_mSums_lp {A P : Int} (hC : okC D) (hB : okB D A P) (hI : mC I D)
    (hQ : ∀ g p' q' r', mK (fun c => 5 ≤ c ∧ c < 9) f g → mKn g D → Nm g 7 (fD D (2 ^ qN D)) → Nm g 8 (gD D (2 ^ qN D)) → Q none (xSH, xRF, I, mL L g p' q' r')) :
    ∀ (n s : Nat) (g p' q' r' : Nat → Int64), s + n = 2 ^ qN D → mK (fun c => 5 ≤ c ∧ c < 9) f g → mKn g D → Nm g 7 (fD D s) → Nm g 8 (gD D s) → xi_V (xG L0 xs) 151 20 [some (Value.ref 37), some (Value.int (nI s))] [] (xSH, xRF, I, mL L g p' q' r') 0 0 Q := by
  have h10 := hC.1
  have hp := p2_lt h10.2
  have hb := okB_big hB
  intro n
  induction n with
  | zero =>
    intro s g p' q' r' hn hk kn h7 h8
    refine b_M_sums_20 ?_
    rw [hI.1, sh_1 (by omega)]
    refine pk_le (2 ^ qN D) s (fun c => ?_) (fun c => absurd c (by omega))
    rw [show s = 2 ^ qN D by omega] at h7 h8
    exact hQ g p' q' r' hk kn h7 h8
  | succ n ih =>
    intro s g p' q' r' hn hk kn h7 h8
    refine b_M_sums_20 ?_
    rw [hI.1, sh_1 (by omega), show (43 : Int32) = nI 43 from rfl, nI_add]
    refine pk_le (2 ^ qN D) s (fun c => absurd c (by omega)) (fun c => ?_)
    refine c_isZero (a := 43 + s) (by omega) (kn.2.2.2 s c) ?_
    by_cases e : wt D s = 0
    · rw [if_pos e]
      refine b_M_sums_38 ⟨fun c => absurd c (by decide), fun _ => b_M_sums_84 ?_⟩
      rw [nI_1]
      refine ih (s + 1) g p' q' r' (by omega) hk kn ?_ ?_
      · unfold fD; rw [sm_s, e, Int.mul_zero, Int.add_zero]; exact h7
      · unfold gD; rw [sm_s, e, Int.mul_zero, Int.zero_mul, Int.add_zero]; exact h8
    · rw [if_neg e]
      refine b_M_sums_38 ⟨fun _ => ?_, fun c => absurd rfl c⟩
      refine c_mTold hC hB hI kn (by omega) (fun g1 k1 n1 => b_M_sums_49 ?_)
      have kn1 := mKn_K k1 (fun c hc => by omega) kn
      rw [show (43 : Int32) = nI 43 from rfl, nI_add]
      have ht := tD_b hC hB s (Nat.le_refl _)
      have hw := wt_A1 hB c
      have htw := mulS ht (show -A ≤ wt D s ∧ wt D s ≤ A by omega)
      have eAP : 1000 * P * A = A * (1000 * P) := Int.mul_comm _ _
      have hf := fD_b hC hB (show s + 1 ≤ 2 ^ qN D by omega)
      have hg := gD_b hC hB (show s + 1 ≤ 2 ^ qN D by omega)
      refine c_times (t := 5) (a := 6) (b := 43 + s) (by decide) (by decide) (by omega) n1 (kn1.2.2.2 s c) (neg_big hb.2.2.2.2.1 ht.1) (neg_big hb.1 (by clear hb hg; omega)) (fitS ht (show -A ≤ wt D s ∧ wt D s ≤ A by clear hb hg; omega) (by rw [eAP]; exact hb.2.2.2.2.2.1)) (fun g2 p2 q2 r2 m2 n2 => b_M_sums_60 ?_)
      have e7 : fD D s + tD D s (qN D) * wt D s * (1 : Int64).toInt = fD D (s + 1) := by rw [m_1L, Int.mul_one]; rfl
      have e8 : gD D s + tD D s (qN D) * wt D s * tD D s (qN D) * (1 : Int64).toInt = gD D (s + 1) := by rw [m_1L, Int.mul_one]; rfl
      have kn2 := mKn_K (mK_F (S := fun c => c = 5) m2 rfl) (fun c hc => by omega) kn1
      refine c_more (a := 7) (b := 5) (by decide) (by decide) (by decide) (w := 1) (mF_Nm m2 (by decide) (k1 7 _ (by omega) h7)) n2 (by decide) ?_ ?_ (fun g3 m3 n3 => b_M_sums_68 ?_)
      · rw [e7]; clear hg; generalize nB ^ 43 = B at *; omega
      · rw [e7]; clear hg; generalize nB ^ 43 = B at *; omega
      rw [e7] at n3
      have kn3 := mKn_K (mK_F (S := fun c => c = 7) m3 rfl) (fun c hc => by omega) kn2
      refine c_times (t := 5) (a := 5) (b := 6) (by decide) (by decide) (by decide) (mF_Nm m3 (by decide) n2) (mF_Nm m3 (by decide) (mF_Nm m2 (by decide) n1)) (neg_big hb.2.2.2.2.2.1 (by rw [← eAP]; exact htw.1)) (neg_big hb.2.2.2.2.1 ht.1) (fitS (by rw [eAP] at htw; exact htw) ht hb.2.2.2.2.2.2) (fun g4 p4 q4 r4 m4 n4 => b_M_sums_76 ?_)
      have kn4 := mKn_K (mK_F (S := fun c => c = 5) m4 rfl) (fun c hc => by omega) kn3
      refine c_more (a := 8) (b := 5) (by decide) (by decide) (by decide) (w := 1) (mF_Nm m4 (by decide) (mF_Nm m3 (by decide) (mF_Nm m2 (by decide) (k1 8 _ (by omega) h8)))) n4 (by decide) ?_ ?_ (fun g5 m5 n5 => b_M_sums_84 ?_)
      · rw [e8]; clear hf htw; generalize nB ^ 43 = B at *; generalize A * (1000 * P) * (1000 * P) = X at *; omega
      · rw [e8]; clear hf htw; generalize nB ^ 43 = B at *; generalize A * (1000 * P) * (1000 * P) = X at *; omega
      rw [e8] at n5
      rw [nI_1]
      exact ih (s + 1) g5 p4 q4 r4 (by omega) (mK_tr hk (mK_tr (mK_w k1 (fun c hc => by omega)) (mK_tr (mK_F m2 (by omega)) (mK_tr (mK_F m3 (by omega)) (mK_tr (mK_F m4 (by omega)) (mK_F m5 (by omega))))))) (mKn_K (mK_F (S := fun c => c = 8) m5 rfl) (fun c hc => by omega) kn4) (mF_Nm m5 (by decide) (mF_Nm m4 (by decide) n3)) n5
/-- sums() -/
theorem c_mSums {A P u w : Int} (hD0 : okD D) (hB : okB D A P) (hI : mC I D) (hD : mD I D) (h0 : Nm f 0 u) (h1 : Nm f 1 w) (hk : ¬ I 37 1 = 0 → mKn f D)
    (hQ : ∀ I' g p' q' r', kF I I' → mKn g D → Nm g 7 (fD D (2 ^ qN D)) → Nm g 8 (gD D (2 ^ qN D)) → Q none (xSH, xRF, I', mL L g p' q' r')) :
    xi_V (xG L0 xs) 151 0 [some (Value.ref 37), none] [] (xSH, xRF, I, mL L f p q r) 0 0 Q := by
  refine b_M_sums_0 (c_mKnow hD0 hB hI hD h0 h1 hk (fun I' g1 p1 q1 r1 kf _ k1 kn1 => b_M_sums_4 ?_))
  refine c_put (a := 7) (by decide) (w := 0) (by decide) (fun g2 m2 n2 => b_M_sums_11 (c_put (a := 8) (by decide) (w := 0) (by decide) (fun g3 m3 n3 => b_M_sums_18 ?_)))
  have kn2 := mKn_K (mK_F (S := fun c => c = 7) m2 rfl) (fun c hc => by omega) kn1
  have kn3 := mKn_K (mK_F (S := fun c => c = 8) m3 rfl) (fun c hc => by omega) kn2
  rw [m_z0] at n2 n3
  exact c_mSums_lp (f := g3) hD0.1 hB (kF_C kf hI) (fun g p' q' r' _ kn a7 a8 => hQ I' g p' q' r' kf kn a7 a8) (2 ^ qN D) 0 g3 _ _ _ (Nat.zero_add _) mK_rf kn3 (mF_Nm m3 (by decide) n2) n3
theorem c_mMean {A P u w : Int} (hD0 : okD D) (hB : okB D A P) (hI : mC I D) (hD : mD I D) (h0 : Nm f 0 u) (h1 : Nm f 1 w) (hk : ¬ I 37 1 = 0 → mKn f D)
    (hQ : ∀ I' g p' q' r', kF I I' → mKn g D → Nm g 0 (rN (fD D (2 ^ qN D)) (al D * cmn D (qN D))) → Nm g 1 (rD (fD D (2 ^ qN D)) (al D * cmn D (qN D))) → Q none (xSH, xRF, I', mL L g p' q' r')) :
    xi_V (xG L0 xs) 152 0 [some (Value.ref 37)] [] (xSH, xRF, I, mL L f p q r) 0 0 Q := by
  have hb := okB_big hB
  refine b_M_mean_0 (c_mSums hD0 hB hI hD h0 h1 hk (fun I' g1 p1 q1 r1 kf kn1 n7 n8 => b_M_mean_4 ?_))
  have hcm := hB.2.2.2.2.2.2.2.1 (qN D) (Nat.le_refl _)
  have hal := hB.2.2.2.2.2.1
  have hf := fD_b hD0.1 hB (Nat.le_refl (2 ^ qN D))
  have hAP : A * P ≤ A * (1000 * P) := Int.mul_le_mul_of_nonneg_left (by clear hb; omega) (by clear hb; omega)
  refine c_times (t := 5) (a := 11) (b := 12) (by decide) (by decide) (by decide) kn1.1 kn1.2.1 (neg_big hb.1 (by clear hb; omega)) (neg_big hb.2.1 (by clear hb; omega)) (fitS (A := A) (B := P) (by clear hb; omega) (by clear hb; omega) (Int.lt_of_le_of_lt hAP hb.2.2.2.2.2.1)) (fun g2 p2 q2 r2 m2 n2 => b_M_mean_13 ?_)
  have kn2 := mKn_K (mK_F (S := fun c => c = 5) m2 rfl) (fun c hc => by omega) kn1
  exact c_result (a := 7) (b := 5) (by decide) (by decide) (by decide) (by decide) (mF_Nm m2 (by decide) n7) n2 (neg_big hb.2.2.2.2.2.1 hf.1) (Int.mul_pos hal.1 (by clear hb; omega)) (fun g4 p4 q4 r4 k4 t4 b4 => b_M_mean_20 (hQ I' g4 p4 q4 r4 kf (mKn_K k4 (fun c hc => by omega) kn2) t4 b4))
/-- what the spread is of -/
noncomputable def spN (D : xD) : Int := gD D (2 ^ qN D) * al D - fD D (2 ^ qN D) * fD D (2 ^ qN D)
noncomputable def spD (D : xD) : Int := al D * cmn D (qN D) * (al D * cmn D (qN D))
theorem c_mSpread {A P u w : Int} (hD0 : okD D) (hB : okB D A P) (hI : mC I D) (hD : mD I D) (h0 : Nm f 0 u) (h1 : Nm f 1 w) (hk : ¬ I 37 1 = 0 → mKn f D)
    (hQ : ∀ I' g p' q' r', kF I I' → mKn g D → Nm g 0 (rN (spN D) (spD D)) → Nm g 1 (rD (spN D) (spD D)) → Q none (xSH, xRF, I', mL L g p' q' r')) :
    xi_V (xG L0 xs) 153 0 [some (Value.ref 37)] [] (xSH, xRF, I, mL L f p q r) 0 0 Q := by
  have hb := okB_big hB
  have hb4 := hB.2.2.1
  have hP := hB.2.1
  have hA := hB.1
  refine b_M_spread_0 (c_mSums hD0 hB hI hD h0 h1 hk (fun I' g1 p1 q1 r1 kf kn1 n7 n8 => b_M_spread_4 ?_))
  have hcm := hB.2.2.2.2.2.2.2.1 (qN D) (Nat.le_refl _)
  have hal := hB.2.2.2.2.2.1
  have hf := fD_b hD0.1 hB (Nat.le_refl (2 ^ qN D))
  have hg := gD_b hD0.1 hB (Nat.le_refl (2 ^ qN D))
  have hAP : A * P ≤ A * (1000 * P) := Int.mul_le_mul_of_nonneg_left (by clear hb hb4; omega) (by clear hb hb4; omega)
  obtain ⟨X, hX⟩ : ∃ X, X = A * (1000 * P) := ⟨_, rfl⟩
  have eX : A * (1000 * P) * (1000 * P) * A = X * X := by rw [hX, Int.mul_assoc (A * (1000 * P)), Int.mul_comm (1000 * P) A]
  have hXp : 1 ≤ X := by rw [hX]; exact Int.le_trans (show (1 : Int) ≤ 1 * (1000 * P) by clear hb hb4; omega) (Int.mul_le_mul_of_nonneg_right hA (by clear hb hb4; omega))
  have hXX : 4 * (X * X) < nB ^ 43 := by rw [← hX, Int.mul_assoc] at hb4; exact hb4
  have hXX1 : X * X < nB ^ 43 := by
    have : 0 ≤ X * X := Int.mul_nonneg (by clear hb hb4 hXX; omega) (by clear hb hb4 hXX; omega)
    generalize nB ^ 43 = B at *; omega
  have bgA := mulS hg (show -A ≤ al D ∧ al D ≤ A by clear hb hb4 hXX hXX1; omega)
  rw [eX] at bgA
  have bff := mulS hf hf
  rw [← hX] at bff
  have bac := mulb (x := al D) (y := cmn D (qN D)) (A := A) (B := P) ⟨by clear hb hb4 hXX hXX1; omega, hal.2⟩ ⟨by clear hb hb4 hXX hXX1; omega, hcm.2⟩
  have bacX : -X ≤ al D * cmn D (qN D) ∧ al D * cmn D (qN D) ≤ X := by rw [hX]; clear hb hb4 hXX hXX1; omega
  have bsp : -(2 * (X * X)) ≤ spN D ∧ spN D ≤ 2 * (X * X) := by
    unfold spN
    clear hb hb4 hXX hXX1
    generalize X * X = Y at *
    omega
  refine c_times (t := 8) (a := 8) (b := 11) (by decide) (by decide) (by decide) n8 kn1.1 (neg_big hb.2.2.2.2.2.2 hg.1) (neg_big hb.1 (by clear hb hb4 hXX hXX1; omega)) (fitS hg (show -A ≤ al D ∧ al D ≤ A by clear hb hb4 hXX hXX1; omega) (by rw [eX]; exact hXX1)) (fun g2 p2 q2 r2 m2 n2 => b_M_spread_14 ?_)
  have kn2 := mKn_K (mK_F (S := fun c => c = 8) m2 rfl) (fun c hc => by omega) kn1
  have n72 := mF_Nm m2 (b := 7) (by decide) n7
  refine c_times (t := 7) (a := 7) (b := 7) (by decide) (by decide) (by decide) n72 n72 (neg_big hb.2.2.2.2.2.1 hf.1) (neg_big hb.2.2.2.2.2.1 hf.1) (fitS hf hf (by rw [← hX]; exact hXX1)) (fun g3 p3 q3 r3 m3 n3 => b_M_spread_24 ?_)
  have kn3 := mKn_K (mK_F (S := fun c => c = 7) m3 rfl) (fun c hc => by omega) kn2
  have esp : gD D (2 ^ qN D) * al D + fD D (2 ^ qN D) * fD D (2 ^ qN D) * (-1 : Int64).toInt = spN D := by
    rw [m_m1]; unfold spN; rw [Int.mul_neg_one]; rfl
  refine c_more (a := 8) (b := 7) (by decide) (by decide) (by decide) (w := -1) (mF_Nm m3 (by decide) n2) n3 (by decide) ?_ ?_ (fun g4 m4 n4 => b_M_spread_35 ?_)
  · rw [esp]; clear hb hb4 eX hXX1; generalize nB ^ 43 = B at *; generalize X * X = Y at *; omega
  · rw [esp]; clear hb hb4 eX hXX1; generalize nB ^ 43 = B at *; generalize X * X = Y at *; omega
  rw [esp] at n4
  have kn4 := mKn_K (mK_F (S := fun c => c = 8) m4 rfl) (fun c hc => by omega) kn3
  refine c_times (t := 5) (a := 11) (b := 12) (by decide) (by decide) (by decide) kn4.1 kn4.2.1 (neg_big hb.1 (by clear hb hb4 hXX hXX1; omega)) (neg_big hb.2.1 (by clear hb hb4 hXX hXX1; omega)) (fitS (A := A) (B := P) (by clear hb hb4 hXX hXX1; omega) (by clear hb hb4 hXX hXX1; omega) (Int.lt_of_le_of_lt hAP hb.2.2.2.2.2.1)) (fun g5 p5 q5 r5 m5 n5 => b_M_spread_44 ?_)
  have kn5 := mKn_K (mK_F (S := fun c => c = 5) m5 rfl) (fun c hc => by omega) kn4
  have hXb : X < nB ^ 43 := by rw [hX]; exact hb.2.2.2.2.2.1
  refine c_times (t := 5) (a := 5) (b := 5) (by decide) (by decide) (by decide) n5 n5 (neg_big hXb bacX.1) (neg_big hXb bacX.1) (fitS bacX bacX hXX1) (fun g6 p6 q6 r6 m6 n6 => b_M_spread_51 ?_)
  have kn6 := mKn_K (mK_F (S := fun c => c = 5) m6 rfl) (fun c hc => by omega) kn5
  have hdp : 0 < al D * cmn D (qN D) := Int.mul_pos hal.1 (by clear hb hb4 hXX hXX1; omega)
  have h2X : 2 * (X * X) < nB ^ 43 := by
    have h0X : 0 ≤ X * X := Int.mul_nonneg (by clear hb hb4 hXX hXX1; omega) (by clear hb hb4 hXX hXX1; omega)
    clear hb hb4 eX hXX1 bsp bff bgA
    generalize nB ^ 43 = B at *
    generalize X * X = Y at *
    omega
  exact c_result (a := 8) (b := 5) (by decide) (by decide) (by decide) (by decide) (mF_Nm m6 (by decide) (mF_Nm m5 (by decide) n4)) n6 (neg_big h2X bsp.1) (Int.mul_pos hdp hdp) (fun g7 p7 q7 r7 k7 t7 b7 => b_M_spread_58 (hQ I' g7 p7 q7 r7 kf (mKn_K k7 (fun c hc => by omega) kn6) t7 b7))
end MR2
