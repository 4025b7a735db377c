/-! bands and band of the class -/
theorem i_sub (u a b : Int32) : (u + a) - (u + b) = a - b := by
  apply Int32.toBitVec_inj.mp
  rw [Int32.toBitVec_sub, Int32.toBitVec_add, Int32.toBitVec_add, Int32.toBitVec_sub]
  rw [BitVec.sub_eq_add_neg, BitVec.sub_eq_add_neg, BitVec.neg_add, BitVec.sub_eq_add_neg]
  have e : u.toBitVec + -u.toBitVec = 0#32 := by rw [← BitVec.sub_eq_add_neg, BitVec.sub_self]
  calc u.toBitVec + a.toBitVec + (-u.toBitVec + -b.toBitVec) = (u.toBitVec + -u.toBitVec) + (a.toBitVec + -b.toBitVec) := by ac_rfl
    _ = a.toBitVec + -b.toBitVec := by rw [e, BitVec.zero_add]
/-- the first sums, above what stands at 0 -/
def pfR (I : Nat → Nat → Int32) (D : xD) (u t : Int32) (e : Nat) : Prop := (∀ p, p < e → I 33 p = u + zI (s1 D p) ∧ I 34 p = t + zI (s2 D p)) ∧ ∀ p, e ≤ p + 1 → p < qN D → I 33 (p + 1) = zI (wp D p)
def cuFr (I I' : Nat → Nat → Int32) : Prop := ∀ a, (a < 32 ∨ 36 < a) → I' a = I a
theorem s1_b {D : xD} (hC : okC D) {p : Nat} (hp : p ≤ qN D) : -1000 ≤ s1 D p ∧ s1 D p ≤ 1000 ∧ 0 ≤ s2 D p ∧ s2 D p ≤ 100000 := by
  have h10 := hC.1
  have hw : ∀ k, k < p → -100 ≤ wp D k ∧ wp D k ≤ 100 := fun k hk => (hC.2 _ (odf_is (show k < qN D by omega)).1).1
  have h1 := sm_bound (f := wp D) (c := 100) (n := p) hw
  have h2 := sm_bound (f := fun k => wp D k * wp D k) (c := 10000) (n := p) (fun k hk => by
    have := mulS (hw k hk) (hw k hk)
    show -10000 ≤ wp D k * wp D k ∧ wp D k * wp D k ≤ 10000
    omega)
  have h3 : 0 ≤ s2 D p := sm_nn (fun k _ => by
    rcases Int.le_total 0 (wp D k) with z | z
    · exact Int.mul_nonneg z z
    · exact Int.mul_nonneg_of_nonpos_of_nonpos z z)
  unfold s1 s2 at *
  omega
theorem dpv_b {D : xD} (hC : okC D) {k a : Nat} (h : a + (k + 1) ≤ qN D) : 0 ≤ (dpv D (k + 1) a).1 ∧ (dpv D (k + 1) a).1 ≤ 10000000 := by
  have h10 := hC.1
  have := tcs_b hC (dpm D (k + 1) a) (qN D - a) a (by omega) (by omega)
  rw [dpm_tcs h] at this
  omega
/-- what the table has so far -/
def dpT (I : Nat → Nat → Int32) (D : xD) (k b : Nat) : Prop := ∀ j a, 1 ≤ j → a + j ≤ qN D → (j < k ∨ (j = k ∧ a < b)) → I 35 (11 * j + a) = zI (dpv D j a).1 ∧ I 36 (11 * j + a) = nI ((dpv D j a).2 - a)
section KCU
variable {L0 : Nat} {xs : Nat → Int32} {Q : xiQ} {I : Nat → Nat → Int32} {L : Nat → Nat → Int64}
variable {D : xD} {sl : xL} {x y : Int}
theorem kC_cu {I' : Nat → Nat → Int32} (f : cuFr I I') (h : kC I D) : kC I' D := kC_of (fun a _ _ => f a (by omega)) h
theorem c_kOrd_in (hC : okC D) (hI : kC I D) {i : Nat} (hi : i < qN D) (J : Nat → Nat → Int32)
    (hQ : ∀ I', (∀ a, a ≠ 32 → a ≠ 33 → I' a = I a) → (∀ k, k ≠ i → I' 32 k = J 32 k) → I' 32 i = nI (rk D i) → I' 33 = xi_u J 33 (rk D i + 1) (zI (qW D i)) 33 → xi_V (xG L0 xs) 27 2 [some (Value.ref 31), some (Value.ref 5), some (Value.int (nI (i + 1))), none, none] [] (xSH, xRF, I', L) 0 0 Q) :
    ∀ (m j : Nat) (I1 : Nat → Nat → Int32), j + m = qN D → (∀ a, a ≠ 32 → a ≠ 33 → I1 a = I a) → I1 33 = J 33 → (∀ k, k ≠ i → I1 32 k = J 32 k) → I1 32 i = nI (rkm D i j) → xi_V (xG L0 xs) 27 19 [some (Value.ref 31), some (Value.ref 5), some (Value.int (nI i)), some (Value.int (nI j)), none] [] (xSH, xRF, I1, L) 0 0 Q
  | 0, j, I1, hm, f1, f3, f2, h32 => by
    have h10 := hC.1
    have hI1 : kC I1 D := kC_of (fun a a1 a2 => f1 a (by omega) (by omega)) hI
    have hr := rk_lt hi
    refine b_Cutting_order_19 ?_
    have ej : j = qN D := by omega
    subst ej
    rw [hI1.1, nI_clamp (by omega), h32, show rkm D i (qN D) = rk D i from rfl, nI_1, nI_clamp (by omega), (hI1.2.1 i hi).1, nI_1]
    refine pk_le (qN D) (qN D) (fun c => ⟨pk_in i 10 (by omega), pk_in i 10 (by omega), pk_in (rk D i + 1) 11 (by omega), hQ _ (fun a a1 a2 => (xi_un a2).trans (f1 a a1 a2)) (fun k hk => by rw [xi_un (by decide)]; exact f2 k hk) (by rw [xi_un (by decide)]; exact h32) ?_⟩) (fun c => absurd c (by omega))
    funext b
    simp only [xi_u, f3, if_true]
  | m + 1, j, I1, hm, f1, f3, f2, h32 => by
    have h10 := hC.1
    have hI1 : kC I1 D := kC_of (fun a a1 a2 => f1 a (by omega) (by omega)) hI
    have hZi := (hC.2 i hi).2.1
    have hZj := (hC.2 j (by omega)).2.1
    have hrl := (rkm_le D i j).1
    have up : lx D j i → xi_V (xG L0 xs) 27 57 [some (Value.ref 31), some (Value.ref 5), some (Value.int (nI i)), some (Value.int (nI j)), some (Value.int (nI (qZ D i) - nI (qZ D j)))] [] (xSH, xRF, I1, L) 0 0 Q := by
      intro hl
      refine b_Cutting_order_57 ⟨pk_in i 10 (by omega), pk_in i 10 (by omega), ?_⟩
      rw [nI_clamp (by omega), h32, nI_1, nI_1]
      refine c_kOrd_in hC hI hi J hQ m (j + 1) _ (by omega) (fun a a1 a2 => (xi_un a1).trans (f1 a a1 a2)) (by rw [xi_un (by decide)]; exact f3) (fun k hk => (xi_uj hk).trans (f2 k hk)) ?_
      rw [xi_us, rkm, if_pos hl]
    have no : ¬ lx D j i → xi_V (xG L0 xs) 27 19 [some (Value.ref 31), some (Value.ref 5), some (Value.int (nI i)), some (Value.int (nI j + 1)), none] [] (xSH, xRF, I1, L) 0 0 Q := by
      intro hl
      rw [nI_1]
      refine c_kOrd_in hC hI hi J hQ m (j + 1) I1 (by omega) f1 f3 f2 ?_
      rw [rkm, if_neg hl, Nat.add_zero]; exact h32
    refine b_Cutting_order_19 ?_
    rw [hI1.1, nI_clamp (show i < 2 ^ 31 by omega), nI_clamp (show j < 2 ^ 31 by omega), (hI1.2.1 i hi).2.1, (hI1.2.1 j (by omega)).2.1]
    have ez : nI (qZ D i) - nI (qZ D j) = zI ((qZ D i : Int) - (qZ D j : Int)) := by rw [zI_n, zI_n, zI_sub]
    refine pk_le (qN D) j (fun c => absurd c (by omega)) (fun _ => ⟨pk_in i 10 (by omega), pk_in j 10 (by omega), fun c => up ?_, fun c => ⟨fun c2 => no ?_, fun c2 => pk_le i j (fun c3 => no ?_) (fun c3 => up ?_)⟩⟩)
    · rw [ez, show (0 : Int32) = zI 0 from rfl, zI_lt (by decide) (by decide) (by omega) (by omega)] at c
      unfold lx; omega
    · rw [ez, show (0 : Int32) = zI 0 from rfl, zI_lt (by decide) (by decide) (by omega) (by omega)] at c
      rw [ez, show (0 : Int32) = zI 0 from rfl, zI_eq (by omega) (by omega) (by decide) (by decide)] at c2
      unfold lx; omega
    · rw [ez, show (0 : Int32) = zI 0 from rfl, zI_eq (by omega) (by omega) (by decide) (by decide)] at c2
      unfold lx; omega
    · rw [ez, show (0 : Int32) = zI 0 from rfl, zI_eq (by omega) (by omega) (by decide) (by decide)] at c2
      unfold lx; omega
theorem c_kOrd_lp (hC : okC D) (hI : kC I D)
    (hQ : ∀ I', (∀ a, a ≠ 32 → a ≠ 33 → I' a = I a) → (∀ i, i < qN D → I' 32 i = nI (rk D i)) → I' 33 0 = I 33 0 → (∀ p, p < qN D → I' 33 (p + 1) = zI (wp D p)) → xi_V (xG L0 xs) 27 100 [some (Value.ref 31), some (Value.ref 5), some (Value.int ((1 : Int32))), none, none] [] (xSH, xRF, I', L) 0 0 Q) :
    ∀ (m i : Nat) (I1 : Nat → Nat → Int32), i + m = qN D → (∀ a, a ≠ 32 → a ≠ 33 → I1 a = I a) → I1 33 0 = I 33 0 → (∀ k, k < i → I1 32 k = nI (rk D k) ∧ I1 33 (rk D k + 1) = zI (qW D k)) → xi_V (xG L0 xs) 27 2 [some (Value.ref 31), some (Value.ref 5), some (Value.int (nI i)), none, none] [] (xSH, xRF, I1, L) 0 0 Q
  | 0, i, I1, hm, f1, f0, hk => by
    have h10 := hC.1
    have hI1 : kC I1 D := kC_of (fun a a1 a2 => f1 a (by omega) (by omega)) hI
    refine b_Cutting_order_2 ?_
    rw [hI1.1]
    refine pk_le (qN D) i (fun c => hQ I1 f1 (fun k hk2 => (hk k (by omega)).1) f0 (fun p hp => ?_)) (fun c => absurd c (by omega))
    have h := odf_is hp
    have := (hk (odf D p) (by omega)).2
    rw [h.2] at this
    exact this
  | m + 1, i, I1, hm, f1, f0, hk => by
    have h10 := hC.1
    have hi : i < qN D := by omega
    have hI1 : kC I1 D := kC_of (fun a a1 a2 => f1 a (by omega) (by omega)) hI
    refine b_Cutting_order_2 ?_
    rw [hI1.1]
    refine pk_le (qN D) i (fun c => absurd c (by omega)) (fun _ => ⟨pk_in i 10 (by omega), ?_⟩)
    rw [nI_clamp (by omega)]
    refine c_kOrd_in hC hI hi I1 (fun I2 g1 g2 g3 g4 => c_kOrd_lp hC hI hQ m (i + 1) I2 (by omega) g1 ?_ (fun k hk2 => ?_)) (qN D) 0 _ (Nat.zero_add _) (fun a a1 a2 => (xi_un a1).trans (f1 a a1 a2)) (xi_un (by decide)) (fun k hk2 => xi_uj hk2) xi_us
    · rw [g4, xi_uj (by omega)]; exact f0
    · rcases Nat.lt_succ_iff_lt_or_eq.mp hk2 with z | z
      · have hne : rk D k ≠ rk D i := rkm_ne (by omega) (by omega) hi
        refine ⟨by rw [g2 k (by omega)]; exact (hk k z).1, ?_⟩
        rw [g4, xi_uj (by omega)]; exact (hk k z).2
      · subst z
        exact ⟨g3, by rw [g4]; exact xi_us⟩
theorem c_kPre_lp (hC : okC D) (hI : kC I D) {u t : Int32}
    (hQ : ∀ I', (∀ a, a ≠ 33 → a ≠ 34 → I' a = I a) → pfR I' D u t (qN D + 1) → Q none (xSH, xRF, I', L)) :
    ∀ (m e : Nat) (I1 : Nat → Nat → Int32), e + m = qN D + 1 → 1 ≤ e → (∀ a, a ≠ 33 → a ≠ 34 → I1 a = I a) → pfR I1 D u t e → xi_V (xG L0 xs) 27 100 [some (Value.ref 31), some (Value.ref 5), some (Value.int (nI e)), none, none] [] (xSH, xRF, I1, L) 0 0 Q
  | 0, e, I1, hm, h1, f1, hp => by
    have h10 := hC.1
    have hI1 : kC I1 D := kC_of (fun a a1 a2 => f1 a (by omega) (by omega)) hI
    refine b_Cutting_order_100 ?_
    rw [hI1.1]
    rw [show e = qN D + 1 by omega] at hp ⊢
    exact pk_lt (qN D) (qN D + 1) (fun _ => hQ I1 f1 hp) (fun c => absurd c (by omega))
  | m + 1, e, I1, hm, h1, f1, hp => by
    have h10 := hC.1
    have hI1 : kC I1 D := kC_of (fun a a1 a2 => f1 a (by omega) (by omega)) hI
    obtain ⟨p, rfl⟩ : ∃ p, e = p + 1 := ⟨e - 1, by omega⟩
    have hpN : p < qN D := by omega
    have ew := hp.2 p (Nat.le_refl _) hpN
    obtain ⟨e33, e34⟩ := hp.1 p (Nat.lt_succ_self p)
    refine b_Cutting_order_100 ?_
    rw [hI1.1, nI_pred, nI_clamp (show p + 1 < 2 ^ 31 by omega), nI_clamp (show p < 2 ^ 31 by omega), xi_un (show 33 ≠ 34 by decide), ew, e33, e34, nI_1]
    refine pk_lt (qN D) (p + 1) (fun c => absurd c (by omega)) (fun _ => ⟨pk_in p 11 (by omega), pk_in (p + 1) 11 (by omega), pk_in (p + 1) 11 (by omega), pk_in (p + 1) 11 (by omega), pk_in (p + 1) 11 (by omega), pk_in p 11 (by omega), pk_in (p + 1) 11 (by omega), ?_⟩)
    refine c_kPre_lp hC hI hQ m (p + 2) _ (by omega) (by omega) (fun a a1 a2 => by rw [xi_un a1, xi_un a2]; exact f1 a a1 a2) ⟨fun q hq => ?_, fun q hq1 hq2 => ?_⟩
    · rw [xi_un (show 34 ≠ 33 by decide)]
      by_cases z : q = p + 1
      · subst z
        rw [xi_us, xi_us, zI_mul]
        refine ⟨?_, ?_⟩
        · rw [Int32.add_comm, Int32.add_assoc, zI_add]; rfl
        · rw [Int32.add_assoc, zI_add]; rfl
      · rw [xi_uj z, xi_uj z, xi_un (show 33 ≠ 34 by decide)]
        exact hp.1 q (by omega)
    · rw [xi_uj (by omega), xi_un (by decide)]
      exact hp.2 q (by omega) hq2
theorem c_kOrder (hC : okC D) (hI : kC I D)
    (hQ : ∀ I' u t, (∀ a, a ≠ 32 → a ≠ 33 → a ≠ 34 → I' a = I a) → (∀ i, i < qN D → I' 32 i = nI (rk D i)) → pfR I' D u t (qN D + 1) → Q none (xSH, xRF, I', L)) : xi_V (xG L0 xs) 27 0 [some (Value.ref 31), some (Value.ref 5), none, none, none] [] (xSH, xRF, I, L) 0 0 Q := by
  refine b_Cutting_order_0 (c_kOrd_lp hC hI (fun I1 f1 f2 f3 f4 => ?_) (qN D) 0 I (Nat.zero_add _) (fun _ _ _ => rfl) rfl (fun k hk => absurd hk (Nat.not_lt_zero k)))
  have hI1 : kC I1 D := kC_of (fun a a1 a2 => f1 a (by omega) (by omega)) hI
  refine c_kPre_lp (u := I1 33 0) (t := I1 34 0) hC hI1 (fun I2 g1 g2 => hQ I2 _ _ (fun a a1 a2 a3 => (g1 a a2 a3).trans (f1 a a1 a2)) (fun i hi => by rw [g1 32 (by decide) (by decide)]; exact f2 i hi) g2) (qN D) 1 I1 (by omega) (Nat.le_refl 1) (fun _ _ _ => rfl) ⟨fun p hp => ?_, fun p _ hp => f4 p hp⟩
  have : p = 0 := by omega
  subst this
  exact ⟨(Int32.add_zero _).symm, (Int32.add_zero _).symm⟩
theorem c_kCst (hC : okC D) {u t : Int32} (hp : pfR I D u t (qN D + 1)) {a b : Nat} (hab : a ≤ b) (hb : b ≤ qN D) (hQ : Q (some (Value.int (zI (cst D a b)))) (xSH, xRF, I, L)) : xi_V (xG L0 xs) 28 0 [some (Value.ref 31), some (Value.int (nI a)), some (Value.int (nI b)), none] [] (xSH, xRF, I, L) 0 0 Q := by
  have h10 := hC.1
  obtain ⟨a3, a4⟩ := hp.1 a (by omega)
  obtain ⟨b3, b4⟩ := hp.1 b (by omega)
  refine b_Cutting_cost_0 ?_
  rw [nI_clamp (show a < 2 ^ 31 by omega), nI_clamp (show b < 2 ^ 31 by omega), a3, a4, b3, b4, i_sub, i_sub, zI_sub, zI_sub, zI_n, zI_n, zI_sub, zI_mul, zI_mul, zI_sub]
  exact ⟨pk_in b 11 (by omega), pk_in a 11 (by omega), pk_in b 11 (by omega), pk_in a 11 (by omega), hQ⟩
theorem c_kLeastOf {k a : Nat} {v : Int32} (hk : k ≤ 10) (ha : a ≤ 10) (hv : I 35 (11 * k + a) = v) (hQ : Q (some (Value.int v)) (xSH, xRF, I, L)) : xi_V (xG L0 xs) 25 0 [some (Value.ref 31), some (Value.int (nI k)), some (Value.int (nI a))] [] (xSH, xRF, I, L) 0 0 Q := by
  refine b_Cutting_leastOf_0 ?_
  rw [show (11 : Int32) = nI 11 from rfl, pk_mul, nI_add, Nat.mul_comm k 11, nI_clamp (by omega), hv]
  exact ⟨pk_in (11 * k + a) 121 (by omega), hQ⟩
theorem c_kChoose {k a : Nat} {n s : Int32} (hk : k ≤ 10) (ha : a ≤ 10) (hQ : Q none (xSH, xRF, xi_u (xi_u I 35 (11 * k + a) s) 36 (11 * k + a) n, L)) : xi_V (xG L0 xs) 30 0 [some (Value.ref 31), some (Value.int (nI k)), some (Value.int (nI a)), some (Value.int n), some (Value.int s)] [] (xSH, xRF, I, L) 0 0 Q := by
  refine b_Cutting_choose_0 ?_
  rw [show (11 : Int32) = nI 11 from rfl, pk_mul, nI_add, Nat.mul_comm k 11, nI_clamp (by omega)]
  exact ⟨pk_in (11 * k + a) 121 (by omega), pk_in (11 * k + a) 121 (by omega), hQ⟩
theorem c_kFirst_lp (hC : okC D) {u t : Int32} (hp : pfR I D u t (qN D + 1)) {k a : Nat} (hk : a + (k + 2) ≤ qN D) (ht : dpT I D (k + 2) a)
    (hQ : ∀ I', (∀ b, b ≠ 35 → b ≠ 36 → I' b = I b) → dpT I' D (k + 2) (a + 1) → Q none (xSH, xRF, I', L)) :
    ∀ (m d : Nat) (I1 : Nat → Nat → Int32), d + m = qN D - (k + 2) - a → (∀ b, b ≠ 35 → b ≠ 36 → I1 b = I b) → (∀ j, j ≠ 11 * (k + 2) + a → I1 35 j = I 35 j ∧ I1 36 j = I 36 j) → I1 35 (11 * (k + 2) + a) = zI (bestE (fun e => cst D a e + (dpv D (k + 1) e).1) (a + 1) d).1 → I1 36 (11 * (k + 2) + a) = nI ((bestE (fun e => cst D a e + (dpv D (k + 1) e).1) (a + 1) d).2 - a) →
      xi_V (xG L0 xs) 29 31 [some (Value.ref 31), some (Value.int (nI (k + 2))), some (Value.int (nI a)), some (Value.int (nI (qN D - (k + 2) + 1))), some (Value.int (nI (a + 2 + d))), none] [] (xSH, xRF, I1, L) 0 0 Q
  | 0, d, I1, hm, f1, f2, h5, h6 => by
    have h10 := hC.1
    refine b_Cutting_cutFirst_31 (pk_lt (qN D - (k + 2) + 1) (a + 2 + d) (fun _ => hQ I1 f1 (fun j b j1 j2 j3 => ?_)) (fun c => absurd c (by omega)))
    by_cases e : 11 * j + b = 11 * (k + 2) + a
    · have ej : j = k + 2 ∧ b = a := by omega
      obtain ⟨rfl, rfl⟩ := ej
      rw [h5, h6, dpv, show qN D - (k + 2) - b = d by omega]
      exact ⟨rfl, rfl⟩
    · rw [(f2 _ e).1, (f2 _ e).2]
      refine ht j b j1 j2 ?_
      rcases j3 with z | ⟨z, w⟩
      · exact Or.inl z
      · refine Or.inr ⟨z, ?_⟩
        subst z
        omega
  | m + 1, d, I1, hm, f1, f2, h5, h6 => by
    have h10 := hC.1
    have hp1 : pfR I1 D u t (qN D + 1) := by
      unfold pfR at *
      rw [f1 33 (by decide) (by decide), f1 34 (by decide) (by decide)]
      exact hp
    have hE : a + 2 + d + (k + 1) ≤ qN D := by omega
    have hbE := bestE_is (fun e => cst D a e + (dpv D (k + 1) e).1) (a + 1) d
    have hread : I1 35 (11 * (k + 1) + (a + 2 + d)) = zI (dpv D (k + 1) (a + 2 + d)).1 := by
      rw [(f2 _ (by omega)).1]
      exact (ht (k + 1) (a + 2 + d) (by omega) (by omega) (Or.inl (by omega))).1
    have hc := cst_b hC (a := a) (b := a + 2 + d) (by omega) (by omega)
    have hd := dpv_b hC (D := D) (k := k) (a := a + 2 + d) (by omega)
    have hbv : 0 ≤ (bestE (fun e => cst D a e + (dpv D (k + 1) e).1) (a + 1) d).1 ∧ (bestE (fun e => cst D a e + (dpv D (k + 1) e).1) (a + 1) d).1 ≤ 20000000 := by
      have h1 := cst_b hC (a := a) (b := (bestE (fun e => cst D a e + (dpv D (k + 1) e).1) (a + 1) d).2) (by omega) (by omega)
      have h2 := dpv_b hC (D := D) (k := k) (a := (bestE (fun e => cst D a e + (dpv D (k + 1) e).1) (a + 1) d).2) (by omega)
      rw [hbE.1]
      show 0 ≤ cst D a _ + _ ∧ cst D a _ + _ ≤ 20000000
      omega
    refine b_Cutting_cutFirst_31 (pk_lt (qN D - (k + 2) + 1) (a + 2 + d) (fun c => absurd c (by omega)) (fun _ => c_kCst hC hp1 (by omega) (by omega) (b_Cutting_cutFirst_44 ?_)))
    rw [nI_pred]
    refine c_kLeastOf (by omega) (by omega) hread (b_Cutting_cutFirst_53 (c_kLeastOf (by omega) (by omega) h5 (b_Cutting_cutFirst_64 ?_)))
    rw [zI_add, zI_le (by omega) (by omega) (by omega) (by omega)]
    have e1 : a + 1 + d + 1 = a + 2 + d := by omega
    refine ⟨fun c => b_Cutting_cutFirst_79 ?_, fun c => ?_⟩
    · rw [nI_1]
      refine c_kFirst_lp hC hp hk ht hQ m (d + 1) I1 (by omega) f1 f2 ?_ ?_
      · rw [bestE, e1, if_neg (by omega)]; exact h5
      · rw [bestE, e1, if_neg (by omega)]; exact h6
    · have es : nI (a + 2 + d) - nI a = nI (a + 2 + d - a) := pk_sub (by omega)
      rw [es]
      refine c_kChoose (by omega) (by omega) (b_Cutting_cutFirst_79 ?_)
      rw [nI_1]
      refine c_kFirst_lp hC hp hk ht hQ m (d + 1) _ (by omega) (fun b b1 b2 => by rw [xi_un b2, xi_un b1]; exact f1 b b1 b2) (fun j hj => ?_) ?_ ?_
      · rw [xi_un (show 35 ≠ 36 by decide), xi_uj hj, xi_uj hj, xi_un (show 36 ≠ 35 by decide)]; exact f2 j hj
      · rw [xi_un (show 35 ≠ 36 by decide), xi_us, bestE, e1, if_pos (by omega)]
      · rw [xi_us, bestE, e1, if_pos (by omega)]
theorem c_kFirst (hC : okC D) {u t : Int32} (hp : pfR I D u t (qN D + 1)) {k a : Nat} (hk : a + (k + 2) ≤ qN D) (ht : dpT I D (k + 2) a)
    (hQ : ∀ I', (∀ b, b ≠ 35 → b ≠ 36 → I' b = I b) → dpT I' D (k + 2) (a + 1) → Q none (xSH, xRF, I', L)) :
    xi_V (xG L0 xs) 29 0 [some (Value.ref 31), some (Value.int (nI (k + 2))), some (Value.int (nI a)), some (Value.int (nI (qN D - (k + 2) + 1))), none, none] [] (xSH, xRF, I, L) 0 0 Q := by
  have h10 := hC.1
  refine b_Cutting_cutFirst_0 ?_
  rw [nI_1]
  refine c_kCst hC hp (by omega) (by omega) (b_Cutting_cutFirst_12 ?_)
  rw [nI_pred, nI_1]
  refine c_kLeastOf (by omega) (by omega) (ht (k + 1) (a + 1) (by omega) (by omega) (Or.inl (by omega))).1 (b_Cutting_cutFirst_22 ?_)
  rw [zI_add]
  refine c_kChoose (by omega) (by omega) (b_Cutting_cutFirst_26 ?_)
  rw [show (2 : Int32) = nI 2 from rfl, nI_add]
  refine c_kFirst_lp (I := I) (u := u) (t := t) hC hp hk ht hQ (qN D - (k + 2) - a) 0 _ (Nat.zero_add _) (fun b b1 b2 => by rw [xi_un b2, xi_un b1]) (fun j hj => ?_) ?_ ?_
  · rw [xi_un (show 35 ≠ 36 by decide), xi_uj hj, xi_uj hj, xi_un (show 36 ≠ 35 by decide)]; exact ⟨rfl, rfl⟩
  · rw [xi_un (show 35 ≠ 36 by decide), xi_us]; rfl
  · rw [xi_us]; show nI 1 = nI (a + 1 - a); rw [show a + 1 - a = 1 by omega]
end KCU
