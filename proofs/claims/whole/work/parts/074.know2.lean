/-! know: by STEPS; the names; the pieces -/
theorem stA_le (D : xD) (p : Nat) : ∀ m, stA D p m ≤ m
  | 0 => Nat.le_refl 0
  | m + 1 => by have := stA_le D p m; rw [stA]; split <;> omega
theorem stA_lt {D : xD} {p : Nat} (h0 : 1 ≤ qN D) (h : p < qn D * qT D) : stA D p (qN D) < qN D := by
  obtain ⟨m, hm⟩ : ∃ m, qN D = m + 1 := ⟨qN D - 1, by omega⟩
  have h1 := stA_le D p m
  unfold qT at h
  rw [hm] at h ⊢
  rw [stA, if_neg (by omega)]
  omega
theorem stS_lt {D : xD} {r : Nat} (h0 : 1 ≤ qN D) (hr : r < qT D) : ∀ j, j ≤ qn D → stS D r j < 2 ^ qN D
  | 0, _ => Nat.pow_pos (by decide)
  | j + 1, h => by
    have h1 := stS_lt h0 hr j (by omega)
    have h2 : r + j * qT D < qn D * qT D := by
      have : (j + 1) * qT D ≤ qn D * qT D := Nat.mul_le_mul_right _ h
      rw [Nat.add_mul, Nat.one_mul] at this
      omega
    have h3 := stA_lt h0 h2
    exact Nat.or_lt_two_pow h1 (Nat.pow_lt_pow_right (by decide) h3)
theorem wS_b (D : xD) (s : Nat) : ∀ r : Nat, 0 ≤ wS D s r ∧ wS D s r ≤ r
  | 0 => by unfold wS; decide
  | r + 1 => by have := wS_b D s r; rw [wS]; split <;> omega
section KN2
variable {L0 : Nat} {xs : Nat → Int32} {Q : xiQ} {I : Nat → Nat → Int32} {L : Nat → Nat → Int64} {f p q r : Nat → Int64}
variable {D : xD}
theorem c_know72 (hD0 : okD D) (hI : mC I D) (hD : mD I D) {t : Nat} (ht : t < qT D)
    (hQ : xi_V (xG L0 xs) 139 0 [some (Value.ref 37), some (Value.int (nI (43 + stS D t (qn D)))), some (Value.long ((1 : Int64))), none] [] (xSH, xRF, I, L) 0 0 (fun o σ' => xi_V (xG L0 xs) 141 111 [some (Value.ref 37), some (Value.int (nI (qT D))), some (Value.int (nI t)), some (Value.int (nI (stS D t (qn D)))), some (Value.int (nI (qn D)))] (o.toList ++ []) σ' 0 0 Q)) :
    ∀ n j : Nat, j + n = qn D → xi_V (xG L0 xs) 141 72 [some (Value.ref 37), some (Value.int (nI (qT D))), some (Value.int (nI t)), some (Value.int (nI (stS D t j))), some (Value.int (nI j))] [] (xSH, xRF, I, L) 0 0 Q := by
  have h10 := hD0.1.1
  have hn10 := hD0.2.2.1
  have hT := qT_le hD0.1
  intro n
  induction n with
  | zero =>
    intro j hn
    refine b_M_know_72 ?_
    rw [hD.2.1]
    refine pk_le (qn D) j (fun c => ?_) (fun c => absurd c (by omega))
    rw [show j = qn D by omega, show (43 : Int32) = nI 43 from rfl, nI_add]
    exact hQ
  | succ n ih =>
    intro j hn
    refine b_M_know_72 ?_
    rw [hD.2.1]
    refine pk_le (qn D) j (fun c => absurd c (by omega)) (fun c => ?_)
    have h2 : t + j * qT D < qn D * qT D := by
      have : (j + 1) * qT D ≤ qn D * qT D := Nat.mul_le_mul_right _ c
      rw [Nat.add_mul, Nat.one_mul] at this
      omega
    have h3 := stA_lt h10.1 h2
    rw [pk_mul, nI_add]
    refine c_mStands hD0 hI hD h2 (b_M_know_93 ?_)
    rw [sh_1 (by omega), nI_or, nI_1]
    exact ih (j + 1) (by omega)
theorem c_know62 (hD0 : okD D) (hI : mC I D) (hD : mD I D) (hK : qK D = 2)
    (hQ : ∀ g, mK (fun c => c = 5 ∨ c = 11 ∨ 43 ≤ c) f g → Nm g 11 (al D) → (∀ s, s < 2 ^ qN D → Nm g (43 + s) (wt D s)) → xi_V (xG L0 xs) 141 125 [some (Value.ref 37), some (Value.int (nI (qT D))), some (Value.int (nI (qT D))), none, none] [] (xSH, xRF, I, mL L g p q r) 0 0 Q) :
    ∀ (n t : Nat) (g : Nat → Int64), t + n = qT D → mK (fun c => c = 5 ∨ c = 11 ∨ 43 ≤ c) f g → (∀ s, s < 2 ^ qN D → Nm g (43 + s) (wS D s t)) → xi_V (xG L0 xs) 141 62 [some (Value.ref 37), some (Value.int (nI (qT D))), some (Value.int (nI t)), none, none] [] (xSH, xRF, I, mL L g p q r) 0 0 Q := by
  have h10 := hD0.1.1
  have hT := qT_le hD0.1
  have hp := p2_lt h10.2
  intro n
  induction n with
  | zero =>
    intro t g hn hk hz
    refine b_M_know_62 (pk_le (qT D) t (fun c => ?_) (fun c => absurd c (by omega)))
    rw [nI_L (by omega)]
    refine c_put (a := 11) (by decide) (by rw [zL_t (by omega) (by omega)]; omega) (fun g1 m1 n1 => ?_)
    rw [zL_t (by omega) (by omega)] at n1
    rw [show t = qT D by omega] at hz ⊢
    refine hQ g1 (mK_tr hk (mK_F m1 (by omega))) (by unfold al; rw [if_pos hK]; exact n1) (fun s hs => ?_)
    unfold wt
    rw [hK]
    exact mF_Nm m1 (by omega) (hz s hs)
  | succ n ih =>
    intro t g hn hk hz
    refine b_M_know_62 (pk_le (qT D) t (fun c => absurd c (by omega)) (fun c => ?_))
    have hlt := stS_lt h10.1 c (qn D) (Nat.le_refl _)
    refine c_know72 hD0 hI hD c ?_ (qn D) 0 (Nat.zero_add _)
    have hz1 := hz _ hlt
    have hb := wS_b D (stS D t (qn D)) t
    have hbig := big_lt
    refine c_one (a := 43 + stS D t (qn D)) (by omega) (by omega) (w := 1) hz1 (by decide) ?_ ?_ (fun g1 k1 n1 => b_M_know_111 ?_)
    · rw [m_1L]; generalize nB ^ 43 = B at *; omega
    · rw [m_1L]; generalize nB ^ 43 = B at *; omega
    · rw [m_1L] at n1
      rw [nI_1]
      refine ih (t + 1) g1 (by omega) (mK_tr hk (mK_w k1 (fun b hb => by omega))) (fun s hs => ?_)
      rw [wS]
      by_cases e : stS D t (qn D) = s
      · rw [if_pos e, ← e]; exact n1
      · rw [if_neg e, Int.add_zero]; exact k1 _ _ (by omega) (hz s hs)
/-- how far the names are -/
def kI (g : Nat → Int64) (D : xD) (u w : Int) (i : Nat) : Prop := Nm g 0 u ∧ Nm g 1 w ∧ Nm g 11 (al D) ∧ Nm g 12 (cmn D i) ∧ (∀ k, k < i → Nm g (13 + k) (ov D k) ∧ Nm g (23 + k) (un D k)) ∧ ∀ s, s < 2 ^ qN D → Nm g (43 + s) (wt D s)
theorem kI_K {S : Nat → Prop} {g h : Nat → Int64} {u w : Int} {i : Nat} (hi : i ≤ 10) (hk : mK S g h) (h1 : ∀ c, S c → (2 ≤ c ∧ c < 11) ∨ (13 + i ≤ c ∧ c < 23) ∨ (23 + i ≤ c ∧ c < 43)) (hI : kI g D u w i) : kI h D u w i := by
  have ns : ∀ c, ¬ ((2 ≤ c ∧ c < 11) ∨ (13 + i ≤ c ∧ c < 23) ∨ (23 + i ≤ c ∧ c < 43)) → ¬ S c := fun c hc hs => hc (h1 c hs)
  refine ⟨hk _ _ (ns _ (by omega)) hI.1, hk _ _ (ns _ (by omega)) hI.2.1, hk _ _ (ns _ (by omega)) hI.2.2.1, hk _ _ (ns _ (by omega)) hI.2.2.2.1, fun k hk2 => ⟨hk _ _ (ns _ (by omega)) (hI.2.2.2.2.1 k hk2).1, hk _ _ (ns _ (by omega)) (hI.2.2.2.2.1 k hk2).2⟩, fun s hs => hk _ _ (ns _ (by omega)) (hI.2.2.2.2.2 s hs)⟩
theorem c_know196 {A P : Int} (hC : okC D) (hB : okB D A P) (hI : mC I D) {i : Nat} (hi : i < qN D) (hw : ∀ s, s < 2 ^ qN D → Nm f (43 + s) (wt D s))
    (hQ : ∀ g, mK (fun c => c = 7) f g → Nm g 7 (c1 D i) → xi_V (xG L0 xs) 110 0 [some (Value.ref 37), some (Value.int (nI (13 + i))), some (Value.int ((7 : Int32))), none] [] (xSH, xRF, I, mL L g p q r) 0 0 (fun o σ' => xi_V (xG L0 xs) 141 242 [some (Value.ref 37), some (Value.int (nI i)), some (Value.int (nI (2 ^ qN D))), none, none] (o.toList ++ []) σ' 0 0 Q)) :
    ∀ (n s : Nat) (g : Nat → Int64), s + n = 2 ^ qN D → mK (fun c => c = 7) f g → Nm g 7 (sm (fun s => (bt s i : Int) * wt D s) s) → xi_V (xG L0 xs) 141 196 [some (Value.ref 37), some (Value.int (nI i)), some (Value.int (nI s)), none, none] [] (xSH, xRF, I, mL L g p q r) 0 0 Q := by
  have h10 := hC.1
  have hp := p2_lt h10.2
  have hb := okB_big hB
  intro n
  induction n with
  | zero =>
    intro s g hn hk h7
    refine b_M_know_196 ?_
    rw [hI.1, sh_1 (by omega), show (13 : Int32) = nI 13 from rfl, nI_add]
    refine pk_le (2 ^ qN D) s (fun c => ?_) (fun c => absurd c (by omega))
    rw [show s = 2 ^ qN D by omega] at h7 ⊢
    exact hQ g hk h7
  | succ n ih =>
    intro s g hn hk h7
    refine b_M_know_196 ?_
    rw [hI.1, sh_1 (by omega), bt_I (by omega) (by omega), bt_is1, show (43 : Int32) = nI 43 from rfl, nI_add]
    refine pk_le (2 ^ qN D) s (fun c => absurd c (by omega)) (fun c => ⟨fun e => b_M_know_226 ?_, fun e => ?_⟩)
    · rw [nI_1]
      refine ih (s + 1) g (by omega) hk ?_
      rw [sm_s, (bt_01 s i).resolve_right e, Int.natCast_zero, Int.zero_mul, Int.add_zero]
      exact h7
    · have hle : ∀ m, m ≤ 2 ^ qN D → 0 ≤ sm (fun s => (bt s i : Int) * wt D s) m ∧ sm (fun s => (bt s i : Int) * wt D s) m ≤ A := by
        intro m hm
        refine ⟨sm_nn (fun k _ => Int.mul_nonneg (Int.natCast_nonneg _) (hB.2.2.2.1 k)), ?_⟩
        have h1 : sm (fun s => (bt s i : Int) * wt D s) m ≤ sm (wt D) m := sm_le (fun k _ => by
          have := hB.2.2.2.1 k
          show (bt k i : Int) * wt D k ≤ wt D k
          rcases bt_01 k i with z | z <;> rw [z] <;> simp <;> omega)
        have h2 := sm_mono (f := wt D) (m := m) (2 ^ qN D - m) (fun k _ => hB.2.2.2.1 k)
        rw [show m + (2 ^ qN D - m) = 2 ^ qN D by omega] at h2
        exact Int.le_trans h1 (Int.le_trans h2 hB.2.2.2.2.1)
      have hs1 := hle (s + 1) (by omega)
      have e1 : sm (fun s => (bt s i : Int) * wt D s) s + wt D s * (1 : Int64).toInt = sm (fun s => (bt s i : Int) * wt D s) (s + 1) := by
        rw [sm_s, e, m_1L, Int.natCast_one, Int.one_mul, Int.mul_one]
      refine c_more (a := 7) (b := 43 + s) (by decide) (by omega) (by omega) (w := 1) h7 (hk _ _ (by omega) (hw s c)) (by decide) ?_ ?_ (fun g1 m1 n1 => b_M_know_226 ?_)
      · rw [e1]; generalize nB ^ 43 = B at *; omega
      · rw [e1]; generalize nB ^ 43 = B at *; omega
      · rw [e1] at n1
        rw [nI_1]
        exact ih (s + 1) g1 (by omega) (mK_tr hk (mK_F m1 rfl)) n1
theorem gcd_pos2 {x y : Int} (hy : 0 < y) : (0 : Int) < ((Int.gcd x y : Nat) : Int) := by
  have : 0 < Int.gcd x y := Int.gcd_pos_of_ne_zero_right x (by omega)
  omega
theorem c_know179 {A P u w : Int} (hD0 : okD D) (hB : okB D A P) (hI : mC I D)
    (hQ : ∀ g p' q' r', mK (fun c => 2 ≤ c) f g → kI g D u w (qN D) → xi_V (xG L0 xs) 141 322 [some (Value.ref 37), some (Value.int ((0 : Int32))), none, none, none] [] (xSH, xRF, I, mL L g p' q' r') 0 0 Q) :
    ∀ (n i : Nat) (g p' q' r' : Nat → Int64), i + n = qN D → mK (fun c => 2 ≤ c) f g → kI g D u w i → xi_V (xG L0 xs) 141 179 [some (Value.ref 37), some (Value.int (nI i)), none, none, none] [] (xSH, xRF, I, mL L g p' q' r') 0 0 Q := by
  have h10 := hD0.1.1
  have hp := p2_lt h10.2
  have hb := okB_big hB
  intro n
  induction n with
  | zero =>
    intro i g p' q' r' hn hk hz
    refine b_M_know_179 ?_
    rw [hI.1]
    refine pk_le (qN D) i (fun c => ?_) (fun c => absurd c (by omega))
    rw [show i = qN D by omega] at hz
    exact hQ g p' q' r' hk hz
  | succ n ih =>
    intro i g p' q' r' hn hk hz
    have hi : i < qN D := by omega
    refine b_M_know_179 ?_
    rw [hI.1]
    refine pk_le (qN D) i (fun c => absurd c (by omega)) (fun c => ?_)
    refine c_put (a := 7) (by decide) (w := 0) (by decide) (fun g1 m1 n1 => b_M_know_194 ?_)
    have k1 : kI g1 D u w i := kI_K (by omega) (mK_F (S := fun c => c = 7) m1 rfl) (fun c hc => by omega) hz
    refine c_know196 hD0.1 hB hI hi k1.2.2.2.2.2 (fun g2 kk2 n2 => ?_) (2 ^ qN D) 0 g1 (Nat.zero_add _) mK_rf (by rw [m_z0] at n1; exact n1)
    have k2 := kI_K (by omega) kk2 (fun c hc => by omega) k1
    refine c_copy (a := 13 + i) (b := 7) (by omega) (by decide) (by omega) n2 (fun g3 m3 n3 => b_M_know_242 ?_)
    have k3 := kI_K (by omega) (mK_F (S := fun c => c = 13 + i) m3 rfl) (fun c hc => by omega) k2
    rw [show (23 : Int32) = nI 23 from rfl, nI_add]
    refine c_copy (a := 23 + i) (b := 11) (by omega) (by decide) (by omega) k3.2.2.1 (fun g4 m4 n4 => b_M_know_252 ?_)
    have k4 := kI_K (by omega) (mK_F (S := fun c => c = 23 + i) m4 rfl) (fun c hc => by omega) k3
    rw [show (13 : Int32) = nI 13 from rfl, show (23 : Int32) = nI 23 from rfl, nI_add, nI_add]
    have hal := hB.2.2.2.2.2.1
    have hc1 : 0 ≤ c1 D i := sm_nn (fun k _ => Int.mul_nonneg (Int.natCast_nonneg _) (hB.2.2.2.1 k))
    refine c_reduce (a := 13 + i) (b := 23 + i) (by omega) (by omega) (by omega) (by omega) (by omega) (by omega) (mF_Nm m4 (by omega) n3) n4 k4.1 k4.2.1 (by have := nB_pow 43; generalize nB ^ 43 = B at *; omega) hal.1 (fun g5 p5 q5 r5 kk5 n5 n5' => b_M_know_264 ?_)
    have k5 := kI_K (by omega) kk5 (fun c hc => by unfold rdS at hc; omega) k4
    have hov := hB.2.2.2.2.2.2.1 i hi
    have hcm := hB.2.2.2.2.2.2.2.1 i (by omega)
    have n5 : Nm g5 (13 + i) (ov D i) := n5
    have n5' : Nm g5 (23 + i) (un D i) := n5'
    have kk5' : mK (fun c => 2 ≤ c) f g5 := mK_tr hk (mK_tr (mK_F m1 (by omega)) (mK_tr (mK_w kk2 (fun c hc => by omega)) (mK_tr (mK_F m3 (by omega)) (mK_tr (mK_F m4 (by omega)) (mK_w kk5 (fun c hc => by unfold rdS at hc; omega))))))
    rw [show (13 : Int32) = nI 13 from rfl, nI_add]
    refine c_isZero (a := 13 + i) (by omega) n5 ?_
    by_cases e : ov D i = 0
    · rw [if_pos e]
      refine b_M_know_272 ⟨fun c => absurd c (by decide), fun _ => b_M_know_314 ?_⟩
      rw [nI_1]
      refine ih (i + 1) g5 p5 q5 r5 (by omega) kk5' ⟨k5.1, k5.2.1, k5.2.2.1, ?_, fun k hk2 => ?_, k5.2.2.2.2.2⟩
      · rw [cmn, if_pos e]; exact k5.2.2.2.1
      · by_cases e2 : k = i
        · subst e2; exact ⟨n5, n5'⟩
        · exact k5.2.2.2.2.1 k (by omega)
    · rw [if_neg e]
      refine b_M_know_272 ⟨fun _ => ?_, fun c => absurd rfl c⟩
      refine c_copy (a := 7) (b := 12) (by decide) (by decide) (by decide) k5.2.2.2.1 (fun g6 m6 n6 => b_M_know_286 ?_)
      have k6 := kI_K (by omega) (mK_F (S := fun c => c = 7) m6 rfl) (fun c hc => by omega) k5
      rw [show (13 : Int32) = nI 13 from rfl, nI_add]
      refine c_copy (a := 8) (b := 13 + i) (by decide) (by omega) (by omega) (mF_Nm m6 (by omega) n5) (fun g7 m7 n7 => b_M_know_296 ?_)
      have k7 := kI_K (by omega) (mK_F (S := fun c => c = 8) m7 rfl) (fun c hc => by omega) k6
      have hovp : 0 < ov D i := by clear hb; omega
      refine c_reduce (a := 7) (b := 8) (by decide) (by decide) (by decide) (by decide) (by decide) (by decide) (mF_Nm m7 (by decide) n6) n7 k7.1 k7.2.1 (by have := nB_pow 43; generalize nB ^ 43 = B at *; omega) hovp (fun g8 p8 q8 r8 kk8 n8 n8' => b_M_know_304 ?_)
      have k8 := kI_K (by omega) kk8 (fun c hc => by unfold rdS at hc; omega) k7
      have hg := gcd_pos2 (x := cmn D i) hovp
      have hG0 : 0 ≤ ov D i / ((Int.gcd (cmn D i) (ov D i) : Nat) : Int) := Int.ediv_nonneg hov.1 (Int.le_of_lt hg)
      have hG1 : ov D i / ((Int.gcd (cmn D i) (ov D i) : Nat) : Int) ≤ ov D i := Int.ediv_le_self _ hov.1
      refine c_times (t := 12) (a := 12) (b := 8) (by decide) (by decide) (by decide) k8.2.2.2.1 n8' (by have := nB_pow 43; generalize nB ^ 43 = B at *; omega) (by have := nB_pow 43; generalize nB ^ 43 = B at *; omega) (fitS (A := P) (B := P) (by clear hb; omega) (by clear hb; omega) hb.2.2.1) (fun g9 p9 q9 r9 m9 n9 => b_M_know_314 ?_)
      rw [nI_1]
      refine ih (i + 1) g9 p9 q9 r9 (by omega) (mK_tr kk5' (mK_tr (mK_F m6 (by omega)) (mK_tr (mK_F m7 (by omega)) (mK_tr (mK_w kk8 (fun c hc => by unfold rdS at hc; omega)) (mK_F m9 (by omega)))))) ⟨mF_Nm m9 (by decide) k8.1, mF_Nm m9 (by decide) k8.2.1, mF_Nm m9 (by decide) k8.2.2.1, ?_, fun k hk2 => ?_, fun s hs => mF_Nm m9 (by omega) (k8.2.2.2.2.2 s hs)⟩
      · rw [cmn, if_neg e]; exact n9
      · by_cases e2 : k = i
        · subst e2
          have q1 : Nm g8 (13 + k) (ov D k) := kk8 _ _ (by unfold rdS; omega) (mF_Nm m7 (by omega) (mF_Nm m6 (by omega) n5))
          have q2 : Nm g8 (23 + k) (un D k) := kk8 _ _ (by unfold rdS; omega) (mF_Nm m7 (by omega) (mF_Nm m6 (by omega) n5'))
          exact ⟨mF_Nm m9 (by omega) q1, mF_Nm m9 (by omega) q2⟩
        · have := k8.2.2.2.2.1 k (by omega)
          exact ⟨mF_Nm m9 (by omega) this.1, mF_Nm m9 (by omega) this.2⟩
end KN2
