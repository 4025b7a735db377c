/-! know: the pieces, and the whole -/
def kF (I I' : Nat → Nat → Int32) : Prop := I' = I ∨ I' = xi_u I 37 1 1
theorem pc_b {D : xD} {A P : Int} (hC : okC D) (hB : okB D A P) {i : Nat} (hi : i < qN D) : -(100 * P) ≤ pc D i ∧ pc D i ≤ 100 * P := by
  have hW := (hC.2 i hi).1
  have hP := hB.2.1
  unfold pc
  split
  · omega
  · rename_i e
    have h := hB.2.2.2.2.2.2.2.2 i hi e
    generalize cmn D (qN D) / ov D i * un D i = z at *
    have h1 : z * qW D i ≤ z * 100 := Int.mul_le_mul_of_nonneg_left hW.2 h.2.2.1
    have h2 : z * (-100) ≤ z * qW D i := Int.mul_le_mul_of_nonneg_left hW.1 h.2.2.1
    omega
section KN3
variable {L0 : Nat} {xs : Nat → Int32} {Q : xiQ} {I : Nat → Nat → Int32} {L : Nat → Nat → Int64} {f p q r : Nat → Int64}
variable {D : xD}
theorem c_know322 {A P u w : Int} (hD0 : okD D) (hB : okB D A P) (hI : mC I D)
    (hQ : ∀ g p' q' r', mK (fun c => 2 ≤ c) f g → mKn g D → Q none (xSH, xRF, I, mL L g p' q' r')) :
    ∀ (n i : Nat) (g p' q' r' : Nat → Int64), i + n = qN D → mK (fun c => 2 ≤ c) f g → kI g D u w (qN D) → (∀ k, k < i → Nm g (33 + k) (pc D k)) → xi_V (xG L0 xs) 141 322 [some (Value.ref 37), some (Value.int (nI i)), none, none, none] [] (xSH, xRF, I, mL L g p' q' r') 0 0 Q := by
  have h10 := hD0.1.1
  have hp := p2_lt h10.2
  have hb := okB_big hB
  intro n
  induction n with
  | zero =>
    intro i g p' q' r' hn hk hz hp
    refine b_M_know_322 ?_
    rw [hI.1]
    refine pk_le (qN D) i (fun c => ?_) (fun c => absurd c (by omega))
    rw [show i = qN D by omega] at hp
    exact hQ g p' q' r' hk ⟨hz.2.2.1, hz.2.2.2.1, fun k hk2 => ⟨(hz.2.2.2.2.1 k hk2).1, (hz.2.2.2.2.1 k hk2).2, hp k hk2⟩, hz.2.2.2.2.2⟩
  | succ n ih =>
    intro i g p' q' r' hn hk hz hp
    have hi : i < qN D := by omega
    have stay : ∀ {S : Nat → Prop} {h : Nat → Int64}, mK S g h → (∀ c, S c → (2 ≤ c ∧ c < 11) ∨ c = 33 + i) → kI h D u w (qN D) ∧ (∀ k, k < i → Nm h (33 + k) (pc D k)) := by
      intro S h hk2 hs
      have ns : ∀ c, ¬ ((2 ≤ c ∧ c < 11) ∨ c = 33 + i) → ¬ S c := fun c hc hs2 => hc (hs c hs2)
      exact ⟨⟨hk2 _ _ (ns _ (by omega)) hz.1, hk2 _ _ (ns _ (by omega)) hz.2.1, hk2 _ _ (ns _ (by omega)) hz.2.2.1, hk2 _ _ (ns _ (by omega)) hz.2.2.2.1, fun k hk3 => ⟨hk2 _ _ (ns _ (by omega)) (hz.2.2.2.2.1 k hk3).1, hk2 _ _ (ns _ (by omega)) (hz.2.2.2.2.1 k hk3).2⟩, fun s hs => hk2 _ _ (ns _ (by omega)) (hz.2.2.2.2.2 s hs)⟩, fun k hk3 => hk2 _ _ (ns _ (by omega)) (hp k hk3)⟩
    refine b_M_know_322 ?_
    rw [hI.1, show (33 : Int32) = nI 33 from rfl, nI_add]
    refine pk_le (qN D) i (fun c => absurd c (by omega)) (fun c => ?_)
    refine c_put (a := 33 + i) (by omega) (w := 0) (by decide) (fun g1 m1 n1 => b_M_know_339 ?_)
    rw [m_z0] at n1
    have f1 : mK (fun c => (2 ≤ c ∧ c < 11) ∨ c = 33 + i) g g1 := mK_F m1 (Or.inr rfl)
    obtain ⟨k1, -⟩ := stay f1 (fun c hc => hc)
    rw [show (13 : Int32) = nI 13 from rfl, nI_add]
    have o1 := (k1.2.2.2.2.1 i hi).1
    refine c_isZero (a := 13 + i) (by omega) o1 ?_
    by_cases e : ov D i = 0
    · rw [if_pos e]
      refine b_M_know_347 ⟨fun c => absurd c (by decide), fun _ => b_M_know_400 ?_⟩
      obtain ⟨k9, p9⟩ := stay f1 (fun c hc => hc)
      rw [nI_1]
      refine ih (i + 1) g1 p' q' r' (by omega) (mK_tr hk (mK_F m1 (by omega))) k9 (fun k hk2 => ?_)
      by_cases e2 : k = i
      · subst e2
        unfold pc
        rw [if_pos e]
        exact n1
      · exact p9 k (by omega)
    · rw [if_neg e]
      have hov := hB.2.2.2.2.2.2.1 i hi
      have hpb := hB.2.2.2.2.2.2.2.2 i hi e
      have hcm := hB.2.2.2.2.2.2.2.1 (qN D) (Nat.le_refl _)
      refine b_M_know_347 ⟨fun _ => ?_, fun c => absurd rfl c⟩
      refine c_copy (a := 7) (b := 12) (by decide) (by decide) (by decide) k1.2.2.2.1 (fun g2 m2 n2 => b_M_know_361 ?_)
      rw [show (13 : Int32) = nI 13 from rfl, nI_add]
      refine c_parts (a := 7) (b := 13 + i) (by decide) (by omega) n2 (mF_Nm m2 (by omega) o1) (by clear hb; omega) (by clear hb; omega) (fun g3 p3 q3 r3 m3 n3 => b_M_know_371 ?_)
      rw [show (23 : Int32) = nI 23 from rfl, nI_add]
      have f3 : mK (fun c => (2 ≤ c ∧ c < 11) ∨ c = 33 + i) g g3 := mK_tr f1 (mK_tr (mK_F m2 (by omega)) (mK_F m3 (by omega)))
      obtain ⟨k3, -⟩ := stay f3 (fun c hc => hc)
      refine c_times (t := 7) (a := 7) (b := 23 + i) (by decide) (by decide) (by omega) n3 (k3.2.2.2.2.1 i hi).2 (by have := nB_pow 43; generalize nB ^ 43 = B at *; omega) (by have := nB_pow 43; generalize nB ^ 43 = B at *; omega) (fitS (A := P) (B := P) (by clear hb; omega) (by clear hb; omega) hb.2.2.1) (fun g4 p4 q4 r4 m4 n4 => b_M_know_383 ?_)
      have hW := (hD0.1.2 i hi).1
      rw [nI_clamp (by clear hb; omega), (hI.2 i hi).1, zI_L (by clear hb; omega) (by clear hb; omega), show (33 : Int32) = nI 33 from rfl, nI_add]
      have f4 : mK (fun c => (2 ≤ c ∧ c < 11) ∨ c = 33 + i) g g4 := mK_tr f3 (mK_F m4 (by omega))
      have n33 : Nm g4 (33 + i) 0 := mF_Nm m4 (by omega) (mF_Nm m3 (by omega) (mF_Nm m2 (by omega) n1))
      have ew : (zL (qW D i)).toInt = qW D i := zL_t (by clear hb; omega) (by clear hb; omega)
      have epc : 0 + cmn D (qN D) / ov D i * un D i * (zL (qW D i)).toInt = pc D i := by
        rw [ew, Int.zero_add]; unfold pc; rw [if_neg e]
      have hpc := pc_b hD0.1 hB hi
      refine ⟨pk_in i 10 (by clear hb; omega), c_more (a := 33 + i) (b := 7) (by omega) (by decide) (by omega) (w := zL (qW D i)) n33 n4 (by rw [ew]; clear hb; omega) ?_ ?_ (fun g5 m5 n5 => b_M_know_400 ?_)⟩
      · rw [epc]; generalize nB ^ 43 = B at *; omega
      · rw [epc]; generalize nB ^ 43 = B at *; omega
      · rw [epc] at n5
        have f5 : mK (fun c => (2 ≤ c ∧ c < 11) ∨ c = 33 + i) g g5 := mK_tr f4 (mK_F m5 (Or.inr rfl))
        obtain ⟨k9, p9⟩ := stay f5 (fun c hc => hc)
        rw [nI_1]
        refine ih (i + 1) g5 p4 q4 r4 (by omega) (mK_tr hk (mK_w f5 (fun c hc => by omega))) k9 (fun k hk2 => ?_)
        by_cases e2 : k = i
        · subst e2; exact n5
        · exact p9 k (by omega)
/-- know() -/
theorem c_mKnow {A P u w : Int} (hD0 : okD D) (hB : okB D A P) (hI : mC I D) (hD : mD I D) (h0 : Nm f 0 u) (h1 : Nm f 1 w) (hk : ¬ I 37 1 = 0 → mKn f D)
    (hQ : ∀ I' g p' q' r', kF I I' → ¬ I' 37 1 = 0 → mK (fun c => 2 ≤ c) f g → mKn g D → Q none (xSH, xRF, I', mL L g p' q' r')) :
    xi_V (xG L0 xs) 141 0 [some (Value.ref 37), none, none, none, none] [] (xSH, xRF, I, mL L f p q r) 0 0 Q := by
  have h10 := hD0.1.1
  have hK4 := hD0.2.1
  have hp := p2_lt h10.2
  refine b_M_know_0 ⟨fun _ => ⟨by decide, ?_⟩, fun c => hQ I f p q r (Or.inl rfl) c mK_rf (hk c)⟩
  have hI' : mC (xi_u I 37 1 1) D := mC_u (by decide) hI
  have hD' : mD (xi_u I 37 1 1) D := mD_u (by decide) hD
  have hne : ¬ xi_u I 37 1 (1 : Int32) 37 1 = 0 := by simp only [xi_u, if_pos]; decide
  have hQ' : ∀ g p' q' r', mK (fun c => 2 ≤ c) f g → mKn g D → Q none (xSH, xRF, xi_u I 37 1 1, mL L g p' q' r') := fun g p' q' r' a b => hQ _ g p' q' r' (Or.inr rfl) hne a b
  refine c_put (a := 11) (by decide) (w := 0) (by decide) (fun g1 m1 n1 => b_M_know_20 ?_)
  have k1 : mK (fun c => 2 ≤ c) f g1 := mK_F m1 (by omega)
  rw [m_z0] at n1
  -- behind the weights
  have fin : ∀ (v : Int32) (g p' q' r' : Nat → Int64), mK (fun c => 2 ≤ c) f g → Nm g 11 (al D) → (∀ s, s < 2 ^ qN D → Nm g (43 + s) (wt D s)) → xi_V (xG L0 xs) 109 0 [some (Value.ref 37), some (Value.int ((12 : Int32))), some (Value.long ((1 : Int64))), none, none] [] (xSH, xRF, xi_u I 37 1 1, mL L g p' q' r') 0 0 (fun o σ' => xi_V (xG L0 xs) 141 177 [some (Value.ref 37), some (Value.int v), none, none, none] (o.toList ++ []) σ' 0 0 Q) := by
    intro v g p' q' r' kg g11 gs
    refine c_put (a := 12) (by decide) (w := 1) (by decide) (fun g2 m2 n2 => b_M_know_177 ?_)
    rw [m_1L] at n2
    have k2 : mK (fun c => 2 ≤ c) f g2 := mK_tr kg (mK_F m2 (by omega))
    refine c_know179 (u := u) (w := w) (f := f) hD0 hB hI' (fun g3 p3 q3 r3 k3 hz3 => ?_) (qN D) 0 g2 p' q' r' (Nat.zero_add _) k2 ⟨k2 0 _ (by omega) h0, k2 1 _ (by omega) h1, mF_Nm m2 (by decide) g11, n2, fun k hk2 => absurd hk2 (Nat.not_lt_zero k), fun s hs => mF_Nm m2 (by omega) (gs s hs)⟩
    exact c_know322 (f := f) hD0 hB hI' hQ' (qN D) 0 g3 p3 q3 r3 (Nat.zero_add _) k3 hz3 (fun k hk2 => absurd hk2 (Nat.not_lt_zero k))
  refine c_know22 (f := g1) hD0.1 hI' (fun g2 k2 z2 => ?_) (2 ^ qN D) 0 g1 (Nat.zero_add _) mK_rf (fun k hk2 => absurd hk2 (Nat.not_lt_zero k))
  have kk2 : mK (fun c => 2 ≤ c) f g2 := mK_tr k1 (mK_w k2 (fun c hc => by omega))
  refine b_M_know_22 ?_
  rw [hI'.1, sh_1 (by omega), hD'.1]
  refine pk_le (2 ^ qN D) (2 ^ qN D) (fun c => ⟨fun e => ?_, fun e => ?_⟩) (fun c => absurd c (by omega))
  · have hK : qK D ≠ 2 := fun z => e (by rw [z]; rfl)
    refine c_know130 (f := g2) hD0 hB hI' hD' hK (fun g3 p3 q3 r3 k3 a3 s3 => fin _ g3 p3 q3 r3 (mK_tr kk2 (mK_w k3 (fun c hc => by omega))) a3 s3) (2 ^ qN D) 0 g2 p q r (Nat.zero_add _) mK_rf (k2 11 _ (by omega) n1) (fun k hk2 => absurd hk2 (Nat.not_lt_zero k)) (fun k hk2 => ⟨0, z2 k hk2⟩)
  · have hK : qK D = 2 := (nI_eq (by omega) (by omega)).mp e
    refine c_mSizes hD0.1 hI' (b_M_know_59 ?_)
    exact c_know62 (f := g2) hD0 hI' hD' hK (fun g3 k3 a3 s3 => b_M_know_125 (fin _ g3 p q r (mK_tr kk2 (mK_w k3 (fun c hc => by omega))) a3 s3)) (qT D) 0 g2 (Nat.zero_add _) mK_rf z2
end KN3
