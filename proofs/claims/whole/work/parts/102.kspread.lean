/-! the class: spread -/
theorem tv_cong {p : Nat → Nat → Int} {c d : Nat → Prop} : ∀ n, (∀ i, i < n → (c i ↔ d i)) → tv p c n = tv p d n
  | 0, _ => rfl
  | n + 1, h => by
    have ih := tv_cong (p := p) n (fun i hi => h i (by omega))
    have hn := h n (Nat.lt_succ_self n)
    rw [tv, tv, ih]
    by_cases z : c n
    · rw [if_pos z, if_pos (hn.mp z)]
    · rw [if_neg z, if_neg (fun w => z (hn.mpr w))]
theorem w_le {u W A : Int} (hW : 0 ≤ W ∧ W ≤ bU) (h : -A ≤ u * bU ∧ u * bU ≤ A) (hA : 0 ≤ A) : -A ≤ u * W ∧ u * W ≤ A := by
  rcases Int.le_total 0 u with c | c
  · have a1 : u * W ≤ u * bU := Int.mul_le_mul_of_nonneg_left hW.2 c
    have a2 : 0 ≤ u * W := Int.mul_nonneg c hW.1
    omega
  · have a1 : u * bU ≤ u * W := Int.mul_le_mul_of_nonpos_left c hW.2
    have a2 : u * W ≤ 0 := Int.mul_nonpos_of_nonpos_of_nonneg c hW.1
    omega
theorem zI_neg (a : Int) : -(zI a) = zI (-a) := (Int32.ofInt_neg a).symm
section KX
variable {L0 : Nat} {xs : Nat → Int32} {Q : xiQ} {I : Nat → Nat → Int32} {L : Nat → Nat → Int64}
variable {D : xD} {sl : xL} {x y W : Int} {p : Nat → Nat → Int}
theorem c_kPairs_lp (hC : okC D) (hI : kC I D) (hr : rat D W p) (hk : kP L D W p) {k : Nat} (hkN : k < qN D)
    (hQ : ∀ L', (∀ a, a ≠ 23 → a ≠ 25 → L' a = L a) → Bg (L' 23) (tu (fun j => qW D j * p k j) p (fun j => 0 < p j j) k) → Bg (L' 25) (tv p (fun j => 0 < p j j) k) → Q none (xSH, xRF, I, L')) :
    ∀ (n i : Nat) (L1 : Nat → Nat → Int64), i + n = k → (∀ a, a ≠ 23 → a ≠ 25 → L1 a = L a) → Bg (L1 23) (tu (fun j => qW D j * p k j) p (fun j => 0 < p j j) i) → Bg (L1 25) (tv p (fun j => 0 < p j j) i) → xi_V (xG L0 xs) 105 9 [some (Value.ref 0), some (Value.int (nI k)), some (Value.int (nI i)), none, none] [] (xSH, xRF, I, L1) 0 0 Q
  | 0, i, L1, hn, f, h23, h25 => by
    have h10 := hC.1
    refine b_D_tallyPairsBefore_9 ?_
    rw [show i = k by omega] at h23 h25 ⊢
    exact pk_le k k (fun _ => hQ L1 f h23 h25) (fun c => absurd c (by omega))
  | n + 1, i, L1, hn, f, h23, h25 => by
    have h10 := hC.1
    have hi : i < qN D := by omega
    have hp := hr.2 i i (Nat.le_refl i) hi
    have hpk := hr.2 k i (by omega) hkN
    have hb : bU = 19531250000000000 := rfl
    have hpU : 0 ≤ p i i ∧ p i i ≤ bU := ⟨hp.1, Int.le_trans hp.2.1 hr.1.2⟩
    have hpkU : 0 ≤ p k i ∧ p k i ≤ bU := ⟨hpk.1, Int.le_trans hpk.2.1 hr.1.2⟩
    have hW := (hC.2 i hi).1
    have hm := ab_mul hW hpkU (by decide)
    have hk1 : kP L1 D W p := kP_f (fun a _ _ _ a4 a5 => f a a4 a5) hk
    refine b_D_tallyPairsBefore_9 (pk_le k i (fun c => absurd c (by omega)) (fun _ => c_kWN hC hk1 hi (b_D_tallyPairsBefore_22 ?_)))
    rw [pos_iff hpU]
    refine ⟨fun c => b_D_tallyPairsBefore_57 ?_, fun c => ⟨pk_in i 10 (by omega), c_kWP hC hk1 hkN hi (b_D_tallyPairsBefore_52 ?_)⟩⟩
    · rw [nI_1]
      refine c_kPairs_lp hC hI hr hk hkN hQ n (i + 1) L1 (by omega) f ?_ ?_
      · rw [tu, if_neg c]; exact h23
      · rw [tv, if_neg c]; exact h25
    · have cc : 0 < p i i := Decidable.not_not.mp c
      rw [if_pos (by omega), nI_clamp (by omega), (hI.2.1 i hi).1, zI_L (by omega) (by omega), zL_mul]
      refine c_tAdd (by omega) (by omega) h23 h25 (fun L2 f2 g23 g25 => b_D_tallyPairsBefore_57 ?_)
      rw [nI_1]
      refine c_kPairs_lp hC hI hr hk hkN hQ n (i + 1) L2 (by omega) (fun a a4 a5 => (f2 a a4 a5).trans (f a a4 a5)) ?_ ?_
      · rw [tu, if_pos cc]; exact g23
      · rw [tv, if_pos cc]; exact g25
theorem c_kPairs (hC : okC D) (hI : kC I D) (hr : rat D W p) (hk : kP L D W p) {k : Nat} (hkN : k < qN D)
    (hQ : ∀ L', (∀ a, a ≠ 23 → a ≠ 25 → L' a = L a) → Bg (L' 23) (tu (fun j => qW D j * p k j) p (fun j => 0 < p j j) k) → Bg (L' 25) (tv p (fun j => 0 < p j j) k) → Q none (xSH, xRF, I, L')) :
    xi_V (xG L0 xs) 105 0 [some (Value.ref 0), some (Value.int (nI k)), none, none, none] [] (xSH, xRF, I, L) 0 0 Q :=
  b_D_tallyPairsBefore_0 (c_tClear (fun L2 f2 g23 g25 => b_D_tallyPairsBefore_7 (c_kPairs_lp (L := L) hC hI hr hk hkN hQ k 0 L2 (Nat.zero_add _) f2 g23 g25)))
theorem c_kTMean_lp (hC : okC D) (hI : kC I D) (hr : rat D W p) (hk : kP L D W p)
    (hQ : ∀ L', (∀ a, a ≠ 23 → a ≠ 25 → L' a = L a) → Bg (L' 23) (tu (fun j => qW D j * p j j) p (fun j => 0 < p j j) (qN D)) → Q none (xSH, xRF, I, L')) :
    ∀ (n i : Nat) (L1 : Nat → Nat → Int64), i + n = qN D → (∀ a, a ≠ 23 → a ≠ 25 → L1 a = L a) → Bg (L1 23) (tu (fun j => qW D j * p j j) p (fun j => 0 < p j j) i) → Bg (L1 25) (tv p (fun j => 0 < p j j) i) → xi_V (xG L0 xs) 106 9 [some (Value.ref 0), some (Value.int (nI i)), none, none] [] (xSH, xRF, I, L1) 0 0 Q
  | 0, i, L1, hn, f, h23, h25 => by
    have h10 := hC.1
    refine b_D_tallyMean_9 ?_
    rw [hI.1]
    rw [show i = qN D by omega] at h23 h25 ⊢
    exact pk_le (qN D) (qN D) (fun _ => hQ L1 f h23) (fun c => absurd c (by omega))
  | n + 1, i, L1, hn, f, h23, h25 => by
    have h10 := hC.1
    have hi : i < qN D := by omega
    have hp := hr.2 i i (Nat.le_refl i) hi
    have hb : bU = 19531250000000000 := rfl
    have hpU : 0 ≤ p i i ∧ p i i ≤ bU := ⟨hp.1, Int.le_trans hp.2.1 hr.1.2⟩
    have hW := (hC.2 i hi).1
    have hm := ab_mul hW hpU (by decide)
    have hk1 : kP L1 D W p := kP_f (fun a _ _ _ a4 a5 => f a a4 a5) hk
    refine b_D_tallyMean_9 ?_
    rw [hI.1]
    refine pk_le (qN D) i (fun c => absurd c (by omega)) (fun _ => c_kWN hC hk1 hi (b_D_tallyMean_28 ?_))
    rw [pos_iff hpU, nI_clamp (by omega), (hI.2.1 i hi).1, zI_L (by omega) (by omega), zL_mul]
    refine ⟨fun c => b_D_tallyMean_55 ?_, fun c => ⟨pk_in i 10 (by omega), c_tAdd (by omega) (by omega) h23 h25 (fun L2 f2 g23 g25 => b_D_tallyMean_55 ?_)⟩⟩
    · rw [nI_1]
      refine c_kTMean_lp hC hI hr hk hQ n (i + 1) L1 (by omega) f ?_ ?_
      · rw [tu, if_neg c]; exact h23
      · rw [tv, if_neg c]; exact h25
    · have cc : 0 < p i i := Decidable.not_not.mp c
      rw [nI_1]
      refine c_kTMean_lp hC hI hr hk hQ n (i + 1) L2 (by omega) (fun a a4 a5 => (f2 a a4 a5).trans (f a a4 a5)) ?_ ?_
      · rw [tu, if_pos cc]; exact g23
      · rw [tv, if_pos cc]; exact g25
theorem c_kTMean (hC : okC D) (hI : kC I D) (hr : rat D W p) (hk : kP L D W p)
    (hQ : ∀ L', (∀ a, a ≠ 23 → a ≠ 25 → L' a = L a) → Bg (L' 23) (tu (fun j => qW D j * p j j) p (fun j => 0 < p j j) (qN D)) → Q none (xSH, xRF, I, L')) :
    xi_V (xG L0 xs) 106 0 [some (Value.ref 0), none, none, none] [] (xSH, xRF, I, L) 0 0 Q :=
  b_D_tallyMean_0 (c_tClear (fun L2 f2 g23 g25 => b_D_tallyMean_7 (c_kTMean_lp (L := L) hC hI hr hk hQ (qN D) 0 L2 (Nat.zero_add _) f2 g23 g25)))
theorem c_kSpread_lp (hC : okC D) (hI : kC I D) (hr : rat D W p) (hk : kP L D W p)
    (hQ : ∀ L', fK L L' → Bg (L' 16) (sts D p (fun j => 0 < p j j) (qN D)) → xi_V (xG L0 xs) 10 0 [some (Value.ref 15), some (Value.long (zL W)), none, none, none, none, none, none, none, none, none, none, none, none, none, none] [] (xSH, xRF, I, L') 0 0 (fun o σ' => xi_V (xG L0 xs) 104 114 [some (Value.ref 0), some (Value.ref 15), some (Value.int (nI (qN D))), none, none] (o.toList ++ []) σ' 0 0 Q)) :
    ∀ (n i : Nat) (L1 : Nat → Nat → Int64), i + n = qN D → fK L L1 → Bg (L1 16) (sts D p (fun j => 0 < p j j) i) → xi_V (xG L0 xs) 104 15 [some (Value.ref 0), some (Value.ref 15), some (Value.int (nI i)), none, none] [] (xSH, xRF, I, L1) 0 0 Q
  | 0, i, L1, hn, f, h16 => by
    have h10 := hC.1
    refine b_D_tellSpread_15 ?_
    rw [hI.1, (kP_f f hk).1]
    rw [show i = qN D by omega] at h16 ⊢
    exact pk_le (qN D) (qN D) (fun _ => hQ L1 f h16) (fun c => absurd c (by omega))
  | n + 1, i, L1, hn, f, h16 => by
    have h10 := hC.1
    have hi : i < qN D := by omega
    have hp := hr.2 i i (Nat.le_refl i) hi
    have hb : bU = 19531250000000000 := rfl
    have hpU : 0 ≤ p i i ∧ p i i ≤ bU := ⟨hp.1, Int.le_trans hp.2.1 hr.1.2⟩
    have hW := (hC.2 i hi).1
    have hww := mulS hW hW
    refine b_D_tellSpread_15 ?_
    rw [hI.1]
    refine pk_le (qN D) i (fun c => absurd c (by omega)) (fun _ => c_kWN hC (kP_f f hk) hi (b_D_tellSpread_34 ?_))
    rw [pos_iff hpU]
    refine ⟨fun c => b_D_tellSpread_97 ?_, fun c => c_kPairs hC hI hr (kP_f f hk) hi (fun L2 f2 g23 g25 => b_D_tellSpread_44 ⟨pk_in i 10 (by omega), ?_⟩)⟩
    · rw [nI_1]
      refine c_kSpread_lp hC hI hr hk hQ n (i + 1) L1 (by omega) f ?_
      rw [sts, if_neg c]; exact h16
    · have cc : 0 < p i i := Decidable.not_not.mp c
      have fk2 : fK L L2 := fK_tr f (fun a _ _ _ a4 a5 => f2 a a4 a5)
      refine c_kWN hC (kP_f fk2 hk) hi (b_D_tellSpread_64 ?_)
      rw [nI_clamp (by omega), (hI.2.1 i hi).1, zI_L (by omega) (by omega)]
      have ep : (zL (p i i)).toInt = p i i := zL_t (by omega) (by omega)
      refine c_bMul (Or.inl ⟨rfl, rfl⟩) (by rw [f2 16 (by decide) (by decide)]; exact h16) (by rw [ep]; omega) (fun g hg => b_D_tellSpread_67 ?_)
      rw [ep] at hg
      rw [zL_mul]
      have ew : (zL (qW D i * qW D i)).toInt = qW D i * qW D i := zL_t (by omega) (by omega)
      refine c_bAdd (Or.inr (Or.inl ⟨rfl, rfl, rfl, rfl⟩)) (by rw [m_rs]; exact hg) (by rw [m_rn (by decide)]; exact g25) (by rw [ew]; omega) (fun g2 hg2 => b_D_tellSpread_81 ?_)
      rw [ew] at hg2
      rw [show (2 : Int64) = zL 2 from rfl, zL_mul]
      have e2 : (zL (2 * qW D i)).toInt = 2 * qW D i := zL_t (by omega) (by omega)
      refine c_bAdd (Or.inl ⟨rfl, rfl, rfl, rfl⟩) (by rw [m_rs]; exact hg2) (by rw [m_rn (by decide), m_rn (by decide)]; exact g23) (by rw [e2]; omega) (fun g3 hg3 => b_D_tellSpread_97 ?_)
      rw [e2] at hg3
      rw [nI_1]
      refine c_kSpread_lp hC hI hr hk hQ n (i + 1) _ (by omega) (fK_tr fk2 (fun a a1 _ _ _ _ => by rw [m_rn a1, m_rn a1, m_rn a1])) ?_
      rw [m_rs, sts, if_pos cc]; exact hg3
theorem o_kSpread (h : kR I L D sl x y)
    (hQ : ∀ I' L', kFr I I' L L' → kR I' L' D sl (rN (spN D) (spD D)) (rD (spN D) (spD D)) → Q none (xSH, xRF, I', L')) : xi_V (xG L0 xs) 84 0 [some (Value.ref 0)] [] (xSH, xRF, I, L) 0 0 Q := by
  have h10 := h.1.1.1
  have hp2 := p2_lt h10.2
  have h2p : 1 ≤ 2 ^ qN D := Nat.pow_pos (by decide)
  refine b_D_spread_0 (c_kPrep h (fun I1 L1 fr1 h1 kw => b_D_spread_11 (b_D_tellSpread_0 ?_)))
  obtain ⟨W, p, hk, hr, -⟩ := kP_of kw
  have hI1 := h1.2.1
  have hb : bU = 19531250000000000 := rfl
  have hW := hr.1
  have eW : (zL W).toInt = W := zL_t (by omega) (by omega)
  refine c_bBecome (Or.inl ⟨rfl, rfl⟩) (fun g hg => b_D_tellSpread_13 ?_)
  rw [m_z0] at hg
  refine c_kSpread_lp (L := L1) h.1.1 hI1 hr hk (fun L2 f2 h16 => ?_) (qN D) 0 _ (Nat.zero_add _) (fun a a1 _ _ _ _ => m_rn a1) (by rw [m_rs, sts]; exact hg)
  refine c_bMul (Or.inl ⟨rfl, rfl⟩) h16 (by rw [eW]; omega) (fun g2 hg2 => b_D_tellSpread_114 ?_)
  rw [eW] at hg2
  have fk3 : fK L1 (m_r L2 16 g2) := fK_tr f2 (fun a a1 _ _ _ _ => m_rn a1)
  refine c_kTMean (L := m_r L2 16 g2) h.1.1 hI1 hr (kP_f fk3 hk) (fun L3 f3 h23 => b_D_tellSpread_118 ?_)
  have fk4 : fK L1 L3 := fK_tr fk3 (fun a _ _ _ a4 a5 => f3 a a4 a5)
  refine c_kWm h.1.1 hI1 hr (kP_f fk4 hk) (b_D_tellSpread_130 ?_)
  have hw := wm_b h.1.1 p (qN D) (Nat.le_refl _)
  rw [zI_neg, zI_L (by omega) (by omega)]
  have en : (zL (-(wmD D p (qN D)))).toInt = -(wmD D p (qN D)) := zL_t (by omega) (by omega)
  refine c_bAdd (Or.inl ⟨rfl, rfl, rfl, rfl⟩) (v := sts D p (fun j => 0 < p j j) (qN D) * W) (by rw [f3 16 (by decide) (by decide), m_rs]; exact hg2) h23 (by rw [en]; omega) (fun g4 hg4 => b_D_tellSpread_135 ?_)
  rw [en, mu_av] at hg4
  have htv := tv_b (p := p) (c := fun j => 0 < p j j) (qN D) (fun i hi => ⟨Int.le_trans (hr.2 i i (Nat.le_refl i) hi).2.1 hW.2, fun z => z⟩)
  have hst := sts_b (p := p) h.1.1 (qN D) (Nat.le_refl _) (fun i j hij hi => ⟨(hr.2 i j hij hi).1, Int.le_trans (hr.2 i j hij hi).2.1 hW.2⟩)
  have hTb : -(2000000 * bU ^ 10) ≤ sts D p (fun j => 0 < p j j) (qN D) * W + tv p (fun j => 0 < p j j) (qN D) * wmD D p (qN D) * -(wmD D p (qN D)) ∧ sts D p (fun j => 0 < p j j) (qN D) * W + tv p (fun j => 0 < p j j) (qN D) * wmD D p (qN D) * -(wmD D p (qN D)) ≤ 2000000 * bU ^ 10 := by
    have hU : 0 ≤ bU ^ qN D ∧ bU ^ qN D ≤ bU ^ 10 := ⟨Int.le_of_lt (bU_pos _), bU_mono h10.2⟩
    have hnn : ((qN D * qN D : Nat) : Int) ≤ 100 := by
      have : qN D * qN D ≤ 10 * 10 := Nat.mul_le_mul h10.2 h10.2
      omega
    have hm : (10000 : Int) * (qN D * qN D : Nat) * bU ^ qN D ≤ 1000000 * bU ^ 10 := (mulb (x := 10000 * ((qN D * qN D : Nat) : Int)) (y := bU ^ qN D) (A := 1000000) (B := bU ^ 10) (by omega) hU).2
    have hs2 := w_le (u := sts D p (fun j => 0 < p j j) (qN D)) (W := W) (by omega) hst (Int.mul_nonneg (by omega) hU.1)
    have m1 := mulS (x := wmD D p (qN D)) (y := tv p (fun j => 0 < p j j) (qN D)) (A := 1000) (B := bU ^ 10) (by omega) (by
      generalize bU ^ 10 = U at *
      omega)
    have m2 := mulS (x := wmD D p (qN D) * tv p (fun j => 0 < p j j) (qN D)) (y := -(wmD D p (qN D))) (A := 1000 * bU ^ 10) (B := 1000) m1 (by omega)
    rw [Int.mul_comm (tv p (fun j => 0 < p j j) (qN D))]
    generalize wmD D p (qN D) * tv p (fun j => 0 < p j j) (qN D) * -(wmD D p (qN D)) = z1 at *
    generalize sts D p (fun j => 0 < p j j) (qN D) * W = z2 at *
    generalize 10000 * ((qN D * qN D : Nat) : Int) * bU ^ qN D = z3 at *
    clear hst hU
    generalize bU ^ 10 = U at *
    omega
  have hbig : 2 * (2000000 * bU ^ 10) < nB ^ 20 := by decide +kernel
  refine c_fTake (by rw [m_rs]; exact hg4) (by generalize nB ^ 20 = P at *; omega) (by generalize nB ^ 20 = P at *; omega) (fun I4 L4 f4 s4 f5 b16 b18 => b_D_tellSpread_142 ?_)
  have hI4 : kC I4 D := kC_of (fun a a1 a2 => f4 a (by omega)) hI1
  have fk5 : fK L1 L4 := fK_tr fk4 (fun a a1 a2 _ _ _ => by rw [f5 a a1 a2, m_rn a1])
  refine c_kSetCount h.1.1 hI4 (b_D_tellSpread_150 (b_D_divideByNames_0 ?_))
  have e1 : nI (2 ^ qN D) - 1 = nI (2 ^ qN D - 1) := by
    rw [zI_n, zI_n, show (1 : Int32) = zI 1 from rfl, zI_sub]
    congr 1
    omega
  rw [e1]
  have hec : tv p (fun i => bt (2 ^ qN D - 1) i = 1 ∧ 0 < p i i) (qN D) = tv p (fun j => 0 < p j j) (qN D) := tv_cong (qN D) (fun i hi => ⟨fun z => z.2, fun z => ⟨by rw [ones_bt, if_pos hi], z⟩⟩)
  refine c_kDivN_lp (L := L4) h.1.1 hI4 hr (by omega) (kP_f fk5 hk) (T := (sts D p (fun j => 0 < p j j) (qN D) * W + tv p (fun j => 0 < p j j) (qN D) * wmD D p (qN D) * -(wmD D p (qN D))).natAbs) (fun L5 t b f6 c16 c18 hg5 he => b_D_tellSpread_155 (b_D_spread_15 ?_)) (qN D) 0 L4 _ 1 (Nat.zero_add _) fK_rf b16 b18 (Nat.gcd_one_right _) (by rw [tv]; rfl)
  rw [hec] at he
  have hres := res_of (I' := I4) (L' := L5) (by omega) s4 c16 c18 hg5 he
  have hcm := (cmn_b h.1 (qN D) (Nat.le_refl _)).1
  have hal := al_pos h.1
  have hsd : 0 < spD D := by
    unfold spD
    have := Int.mul_pos hal (show 0 < cmn D (qN D) by omega)
    exact Int.mul_pos this this
  have e := rN_eq (a := sts D p (fun j => 0 < p j j) (qN D) * W + tv p (fun j => 0 < p j j) (qN D) * wmD D p (qN D) * -(wmD D p (qN D))) (b := tv p (fun j => 0 < p j j) (qN D)) (c := spN D) (d := spD D) (by omega) hsd
    (id_spread (by omega) (sts_sum h.1 hr (qN D) (Nat.le_refl _)) (gD_q hr (qN D) (Nat.le_refl _)) (fD_wm h.1 hr))
  rw [e.1, e.2] at hres
  have t := k_end h1 fr1 f4 (fK_tr fk5 f6) hres
  exact hQ _ _ t.1 t.2
end KX
