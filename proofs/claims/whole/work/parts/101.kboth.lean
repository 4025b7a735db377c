/-! the class: both, chance, set, sets, many, mean -/
theorem k_end {I I1 I2 : Nat → Nat → Int32} {L L1 L2 : Nat → Nat → Int64} {D : xD} {sl : xL} {x y x' y' : Int} (h1 : kR I1 L1 D sl x y) (fr1 : kFr I I1 L L1) (f1 : ∀ a, a ≠ 14 → I2 a = I1 a) (f2 : fK L1 L2) (r : kRes I2 L2 x' y') : kFr I I2 L L2 ∧ kR I2 L2 D sl x' y' := by
  have := kR_res h1 f1 f2 r
  exact ⟨⟨fun a ha => (this.2.1 a ha).trans (fr1.1 a ha), fun a ha => (this.2.2 a ha).trans (fr1.2 a ha)⟩, this.1⟩
theorem c2_comm (D : xD) (i j : Nat) : c2 D i j = c2 D j i := sm_cong (fun s _ => by rw [Nat.mul_comm])
theorem hund (n : Nat) : ((100 ^ n : Nat) : Int) = 100 ^ n := Int.natCast_pow 100 n
theorem w3_le {D : xD} (hC : okC D) (s : Nat) : ∀ n, n ≤ qN D → 0 ≤ w3 D s n ∧ w3 D s n ≤ 100 ^ n
  | 0, _ => by rw [w3, Int.pow_zero]; decide
  | n + 1, h => by
    have hS := (hC.2 n (by omega)).2.2.2
    have ih := w3_le hC s n (by omega)
    rw [w3, Int.pow_succ]
    exact mulb ih (by split <;> omega)
section KB
variable {L0 : Nat} {xs : Nat → Int32} {Q : xiQ} {I : Nat → Nat → Int32} {L : Nat → Nat → Int64}
variable {D : xD} {sl : xL} {x y W : Int} {p : Nat → Nat → Int}
theorem o_kBoth (h : kR I L D sl x y) {i j : Nat} (hi : i < qN D) (hj : j < qN D)
    (hQ : ∀ I' L', kFr I I' L L' → kR I' L' D sl (rN (c2 D i j) (al D)) (rD (c2 D i j) (al D)) → Q (some (Value.int 1)) (xSH, xRF, I', L')) : xi_V (xG L0 xs) 78 0 [some (Value.ref 0), some (Value.int (nI i)), some (Value.int (nI j))] [] (xSH, xRF, I, L) 0 0 Q := by
  refine b_D_both_0 (c_kIsName1 h.1.1 h.2.1 hi (b_D_both_5 ⟨fun c => absurd c (by decide), fun _ => c_kIsName1 h.1.1 h.2.1 hj (b_D_both_13 ⟨fun _ => c_kPrep h (fun I1 L1 fr1 h1 kw => b_D_both_29 ?_), fun c => absurd c (by decide)⟩)⟩))
  obtain ⟨W, p, hk, hr, -⟩ := kP_of kw
  have hb : bU = 19531250000000000 := rfl
  have hW := hr.1
  refine c_kWP h.1.1 hk hi hj (b_D_both_42 ?_)
  rw [hk.1]
  obtain ⟨q, hq⟩ : ∃ q, q = (if j ≤ i then p i j else p j i) := ⟨_, rfl⟩
  have hp : 0 ≤ q ∧ q ≤ W ∧ W * c2 D i j = al D * q := by
    rw [hq]
    by_cases c : j ≤ i
    · rw [if_pos c]; exact hr.2 i j c hi
    · rw [if_neg c, c2_comm]; exact hr.2 j i (by omega) hj
  rw [← hq]
  refine c_fPut (by omega) (by omega) (fun I2 L2 f1 f2 r => b_D_both_52 ⟨by decide, ?_⟩)
  have e := rN_eq (a := q) (b := W) (c := c2 D i j) (d := al D) (by omega) (al_pos h.1) (by rw [Int.mul_comm, ← hp.2.2, Int.mul_comm])
  rw [e.1, e.2] at r
  have t := k_end h1 fr1 f1 (fun a a1 a2 a3 _ _ => f2 a a1 a2 a3) r
  exact hQ _ _ t.1 t.2
theorem c_kBoth0 (hC : okC D) (hI : kC I D) {v w : Int32} (hv : (v < 0 ∨ nI (qN D) ≤ v) ∨ (w < 0 ∨ nI (qN D) ≤ w)) (hQ : Q (some (Value.int 0)) (xSH, xRF, I, L)) : xi_V (xG L0 xs) 78 0 [some (Value.ref 0), some (Value.int v), some (Value.int w)] [] (xSH, xRF, I, L) 0 0 Q := by
  have h10 := hC.1
  by_cases e : v < 0 ∨ nI (qN D) ≤ v
  · exact b_D_both_0 (c_kIsName0 hI e (b_D_both_5 ⟨fun _ => ⟨by decide, hQ⟩, fun c => absurd rfl c⟩))
  · have e2 := hv.resolve_left e
    obtain ⟨n, hn⟩ : ∃ n : Nat, v = nI n ∧ n < qN D := by
      have h0 : ¬ v < 0 := fun z => e (Or.inl z)
      have h1 : ¬ nI (qN D) ≤ v := fun z => e (Or.inr z)
      rw [Int32.lt_iff_toInt_lt] at h0
      rw [Int32.le_iff_toInt_le, zI_n, zI_t (by omega) (by omega)] at h1
      have z0 : (0 : Int32).toInt = 0 := by decide
      exact ⟨v.toInt.toNat, nI_of_toInt (by omega), by omega⟩
    rw [hn.1]
    exact b_D_both_0 (c_kIsName1 hC hI hn.2 (b_D_both_5 ⟨fun c => absurd c (by decide), fun _ => c_kIsName0 hI e2 (b_D_both_13 ⟨fun c => absurd rfl c, fun _ => ⟨by decide, hQ⟩⟩)⟩))
theorem c_kOwn_top (hC : okC D) (hI : kC I D) {s : Nat} (hs : s < 1024)
    (hQ : ∀ L', (∀ a, a ≠ 16 → L' a = L a) → Bg (L' 16) (w3 D s (qN D)) → xi_V (xG L0 xs) 34 0 [some (Value.ref 14)] [] (xSH, xRF, I, L') 0 0 (fun o σ' => xi_V (xG L0 xs) 100 76 [some (Value.ref 0), some (Value.int (nI s)), some (Value.int (nI (qN D))), none] (o.toList ++ []) σ' 0 0 Q)) :
    ∀ (n i : Nat) (L1 : Nat → Nat → Int64), i + n = qN D → (∀ a, a ≠ 16 → L1 a = L a) → Bg (L1 16) (w3 D s i) → xi_V (xG L0 xs) 100 13 [some (Value.ref 0), some (Value.int (nI s)), some (Value.int (nI i)), none] [] (xSH, xRF, I, L1) 0 0 Q
  | 0, i, L1, hn, f, h16 => by
    have h10 := hC.1
    refine b_D_tellOwnChance_13 ?_
    rw [hI.1]
    rw [show i = qN D by omega] at h16 ⊢
    exact pk_le (qN D) (qN D) (fun _ => hQ L1 f h16) (fun c => absurd c (by omega))
  | n + 1, i, L1, hn, f, h16 => by
    have h10 := hC.1
    have hi : i < qN D := by omega
    have hS := (hC.2 i hi).2.2.2
    refine b_D_tellOwnChance_13 ?_
    have e100 : (100 : Int32) = zI 100 := rfl
    rw [hI.1, bt_I (by omega) (by omega), bt_is1, nI_clamp (by omega), (hI.2.1 i hi).2.2, zI_n (qS D i), e100, zI_sub, zI_L (by omega) (by omega), zI_L (by omega) (by omega)]
    refine pk_le (qN D) i (fun c => absurd c (by omega)) (fun _ => ⟨pk_in i 10 (by omega), fun e => ?_, fun e => ?_⟩)
    · refine c_bMul (Or.inl ⟨rfl, rfl⟩) h16 (by rw [zL_t (by omega) (by omega)]; omega) (fun g hg => b_D_tellOwnChance_63 ?_)
      rw [nI_1]
      refine c_kOwn_top hC hI hs hQ n (i + 1) _ (by omega) (fun a ha => (m_rn ha).trans (f a ha)) ?_
      rw [m_rs, w3, if_neg e]
      rw [zL_t (by omega) (by omega)] at hg
      exact hg
    · refine c_bMul (Or.inl ⟨rfl, rfl⟩) h16 (by rw [zL_t (by omega) (by omega)]; omega) (fun g hg => b_D_tellOwnChance_63 ?_)
      rw [nI_1]
      refine c_kOwn_top hC hI hs hQ n (i + 1) _ (by omega) (fun a ha => (m_rn ha).trans (f a ha)) ?_
      rw [m_rs, w3, if_pos e]
      rw [zL_t (by omega) (by omega)] at hg
      exact hg
theorem c_kOwn_dn (hC : okC D) (hI : kC I D) {s T : Nat}
    (hQ : ∀ L' (t b : Nat), fK L L' → Bx (L' 16) (t : Int) → Bx (L' 18) (b : Int) → Nat.gcd t b = 1 → t * 100 ^ qN D = T * b → Q none (xSH, xRF, I, L')) :
    ∀ (n i : Nat) (L1 : Nat → Nat → Int64) (t b : Nat), i + n = qN D → fK L L1 → Bx (L1 16) (t : Int) → Bx (L1 18) (b : Int) → Nat.gcd t b = 1 → t * 100 ^ i = T * b → xi_V (xG L0 xs) 100 78 [some (Value.ref 0), some (Value.int (nI s)), some (Value.int (nI i)), none] [] (xSH, xRF, I, L1) 0 0 Q
  | 0, i, L1, t, b, hn, f, h16, h18, hg, he => by
    have h10 := hC.1
    refine b_D_tellOwnChance_78 ?_
    rw [hI.1]
    rw [show i = qN D by omega] at he ⊢
    exact pk_le (qN D) (qN D) (fun _ => hQ L1 t b f h16 h18 hg he) (fun c => absurd c (by omega))
  | n + 1, i, L1, t, b, hn, f, h16, h18, hg, he => by
    have h10 := hC.1
    have hi : i < qN D := by omega
    refine b_D_tellOwnChance_78 ?_
    rw [hI.1]
    refine pk_le (qN D) i (fun c => absurd c (by omega)) (fun _ => ?_)
    have hv : 0 < 100 ^ i := Nat.pow_pos (by decide)
    have hbv : b ≤ 100 ^ i := by
      have hdv : b ∣ t * 100 ^ i := ⟨T, by rw [he, Nat.mul_comm]⟩
      have hco : Nat.Coprime b t := by unfold Nat.Coprime; rw [Nat.gcd_comm]; exact hg
      exact Nat.le_of_dvd hv (hco.dvd_of_dvd_mul_left hdv)
    have hbd : ((b * 100 : Nat) : Int) < nB ^ 20 := by
      have h1 : b * 100 ≤ 100 ^ 10 := by
        have : 100 ^ i ≤ 100 ^ 9 := Nat.pow_le_pow_right (by decide) (by omega)
        omega
      have h2 : ((100 ^ 10 : Nat) : Int) < nB ^ 20 := by decide +kernel
      exact Int.lt_of_le_of_lt (Int.ofNat_le.mpr h1) h2
    refine c_fDiv (d := 100) (by omega) h16 h18 hbd (fun L2 f2 g16 g18 => b_D_tellOwnChance_99 ?_)
    rw [nI_1]
    have hgp : 0 < Nat.gcd t 100 := Nat.gcd_pos_of_pos_right _ (by omega)
    refine c_kOwn_dn hC hI hQ n (i + 1) L2 (t / Nat.gcd t 100) (b * (100 / Nat.gcd t 100)) (by omega) (fK_tr f (fun a a1 a2 a3 _ _ => f2 a a1 a2 a3)) g16 g18 ?_ ?_
    · have c1 : Nat.Coprime (t / Nat.gcd t 100) b := by
        have : t / Nat.gcd t 100 ∣ t := Nat.div_dvd_of_dvd (Nat.gcd_dvd_left t 100)
        exact Nat.Coprime.coprime_dvd_left this hg
      have c2 : Nat.Coprime (t / Nat.gcd t 100) (100 / Nat.gcd t 100) := Nat.coprime_div_gcd_div_gcd hgp
      exact Nat.Coprime.mul_right c1 c2
    · refine Nat.eq_of_mul_eq_mul_right hgp ?_
      have a1 : t / Nat.gcd t 100 * Nat.gcd t 100 = t := Nat.div_mul_cancel (Nat.gcd_dvd_left t 100)
      have a2 : 100 / Nat.gcd t 100 * Nat.gcd t 100 = 100 := Nat.div_mul_cancel (Nat.gcd_dvd_right t 100)
      rw [Nat.mul_right_comm, a1, Nat.mul_assoc T, Nat.mul_assoc b, a2, Nat.pow_succ, ← Nat.mul_assoc, he, Nat.mul_assoc]
theorem o_kSet (h : kR I L D sl x y) {s : Nat} (hs : s < 2 ^ qN D)
    (hQ : ∀ I' L', kFr I I' L L' → kR I' L' D sl (rN (wt D s) (al D)) (rD (wt D s) (al D)) → Q (some (Value.int 1)) (xSH, xRF, I', L')) : xi_V (xG L0 xs) 79 0 [some (Value.ref 0), some (Value.int (nI s))] [] (xSH, xRF, I, L) 0 0 Q := by
  have h10 := h.1.1.1
  have hp2 := p2_lt h10.2
  have hK4 := h.1.2.1
  refine b_D_set_0 (c_kIsSet1 h.1.1 h.2.1 hs (b_D_set_5 ⟨fun _ => c_kPrep h (fun I1 L1 fr1 h1 kw => b_D_set_21 ?_), fun c => absurd c (by decide)⟩))
  obtain ⟨W, p, hk, hr, wc, hw⟩ := kP_of kw
  have hb : bU = 19531250000000000 := rfl
  have hW := hr.1
  rw [h1.2.2.1.1, show (3 : Int32) = nI 3 from rfl, nI_eqI (by omega) (by decide)]
  refine ⟨fun c => ⟨pk_in s 1024 (by omega), ?_⟩, fun c => ?_⟩
  · have hws := hw s hs
    rw [nI_clamp (by omega), hws.1, hk.1]
    refine c_fPut (by omega) (by omega) (fun I2 L2 f1 f2 r => b_D_set_63 ⟨by decide, ?_⟩)
    have e := rN_eq (a := wc s) (b := W) (c := wt D s) (d := al D) (by omega) (al_pos h.1) (by rw [Int.mul_comm, ← hws.2.2.2.2 c, Int.mul_comm])
    rw [e.1, e.2] at r
    have t := k_end h1 fr1 f1 (fun a a1 a2 a3 _ _ => f2 a a1 a2 a3) r
    exact hQ _ _ t.1 t.2
  · refine b_D_tellOwnChance_0 (c_bBecome (Or.inl ⟨rfl, rfl⟩) (fun g hg => b_D_tellOwnChance_11 ?_))
    rw [m_1L] at hg
    have hI1 := h1.2.1
    have e3 : wt D s = w3 D s (qN D) := by
      unfold wt
      rw [if_neg (by omega), if_neg (by omega), if_neg (by omega), if_pos c]
    refine c_kOwn_top (L := L1) h.1.1 hI1 (by omega) (fun L2 f2 h16 => ?_) (qN D) 0 _ (Nat.zero_add _) (fun a ha => m_rn ha) (by rw [m_rs, w3]; exact hg)
    have hwb := w3_le h.1.1 s (qN D) (Nat.le_refl _)
    have hbig : (2 : Int) * 100 ^ 10 < nB ^ 20 := by decide +kernel
    have hle : (100 : Int) ^ qN D ≤ 100 ^ 10 := by
      rw [← hund, ← hund]
      exact Int.ofNat_le.mpr (Nat.pow_le_pow_right (by decide) h10.2)
    have e10 : (100 : Int) ^ 10 = 100000000000000000000 := by decide
    refine c_fTake h16 (by generalize nB ^ 20 = P at *; omega) (by generalize nB ^ 20 = P at *; omega) (fun I4 L4 f4 s4 f5 b16 b18 => b_D_tellOwnChance_76 ?_)
    have hI4 : kC I4 D := kC_of (fun a a1 a2 => f4 a (by omega)) hI1
    refine c_kOwn_dn (L := L4) h.1.1 hI4 (T := (w3 D s (qN D)).natAbs) (fun L5 t b f6 c16 c18 hg2 he => b_D_set_37 (b_D_set_63 ⟨by decide, ?_⟩)) (qN D) 0 L4 _ 1 (Nat.zero_add _) fK_rf b16 b18 (Nat.gcd_one_right _) (by rw [Nat.pow_zero])
    have hres := res_of (S := al D) (I' := I4) (L' := L5) (al_pos h.1) s4 c16 c18 hg2 (by
      rw [own_al c, ← hund, ← Int.natCast_mul, ← Int.natCast_mul, he])
    rw [← e3] at hres
    have t := k_end h1 fr1 f4 (fun a a1 a2 a3 a4 a5 => by rw [f6 a a1 a2 a3 a4 a5, f5 a a1 a2, f2 a a1]) hres
    exact hQ _ _ t.1 t.2
theorem c_kSet0 (hC : okC D) (hI : kC I D) {v : Int32} (hv : v < 0 ∨ nI (2 ^ qN D) ≤ v) (hQ : Q (some (Value.int 0)) (xSH, xRF, I, L)) : xi_V (xG L0 xs) 79 0 [some (Value.ref 0), some (Value.int v)] [] (xSH, xRF, I, L) 0 0 Q :=
  b_D_set_0 (c_kIsSet0 hC hI hv (b_D_set_5 ⟨fun c => absurd rfl c, fun _ => ⟨by decide, hQ⟩⟩))
theorem c_kSum0 (hC : okC D) (hI : kC I D) {v : Int32} (hv : v < 0 ∨ nI (2 ^ qN D) ≤ v) (hQ : Q (some (Value.int 0)) (xSH, xRF, I, L)) : xi_V (xG L0 xs) 82 0 [some (Value.ref 0), some (Value.int v)] [] (xSH, xRF, I, L) 0 0 Q :=
  b_D_sum_0 (c_kIsSet0 hC hI hv (b_D_sum_5 ⟨fun c => absurd rfl c, fun _ => ⟨by decide, hQ⟩⟩))
theorem c_kSets_lp (hC : okC D) (hI : kC I D) {wc : Nat → Int} (hw : ∀ s, s < 2 ^ qN D → L 12 s = zL (wc s) ∧ 0 ≤ wc s ∧ wc s ≤ 19531250000000000 ∧ (wc s = 0 ↔ wt D s = 0))
    (hQ : Q (some (Value.int (nI (cs D (2 ^ qN D))))) (xSH, xRF, I, L)) :
    ∀ (n s : Nat), s + n = 2 ^ qN D → xi_V (xG L0 xs) 80 15 [some (Value.ref 0), some (Value.int (nI (cs D s))), some (Value.int (nI s))] [] (xSH, xRF, I, L) 0 0 Q
  | 0, s, hn => by
    have h10 := hC.1
    have hp2 := p2_lt h10.2
    refine b_D_sets_15 (c_kSetCount hC hI (b_D_sets_23 (pk_le (2 ^ qN D) s (fun _ => ?_) (fun c => absurd c (by omega)))))
    rw [show s = 2 ^ qN D by omega]
    exact hQ
  | n + 1, s, hn => by
    have h10 := hC.1
    have hp2 := p2_lt h10.2
    have hws := hw s (by omega)
    have ih := c_kSets_lp hC hI hw hQ n (s + 1) (by omega)
    rw [cs] at ih
    refine b_D_sets_15 (c_kSetCount hC hI (b_D_sets_23 (pk_le (2 ^ qN D) s (fun c => absurd c (by omega)) (fun _ => ⟨pk_in s 1024 (by omega), ?_⟩))))
    rw [nI_clamp (by omega), hws.1, pos_iff ⟨hws.2.1, hws.2.2.1⟩, nI_1, nI_1]
    refine ⟨fun c => ?_, fun c => ?_⟩
    · rw [if_pos (hws.2.2.2.mp (by omega))] at ih
      exact ih
    · rw [if_neg (fun z => by have := hws.2.2.2.mpr z; omega)] at ih
      exact ih
theorem o_kSets (h : kR I L D sl x y)
    (hQ : ∀ I' L', kFr I I' L L' → kR I' L' D sl x y → Q (some (Value.int (nI (cs D (2 ^ qN D))))) (xSH, xRF, I', L')) : xi_V (xG L0 xs) 80 0 [some (Value.ref 0), none, none] [] (xSH, xRF, I, L) 0 0 Q := by
  refine b_D_sets_0 (c_kPrep h (fun I1 L1 fr1 h1 kw => b_D_sets_11 ?_))
  obtain ⟨W, p, hk, hr, wc, hw⟩ := kP_of kw
  exact c_kSets_lp h.1.1 h1.2.1 (fun s hs => ⟨(hw s hs).1, (hw s hs).2.1, (hw s hs).2.2.1, (hw s hs).2.2.2.1⟩) (hQ I1 L1 fr1 h1) (2 ^ qN D) 0 (Nat.zero_add _)
theorem c_kMany_lp (hC : okC D) (hI : kC I D) (hk : kP L D W p)
    (hQ : xi_V (xG L0 xs) 33 0 [some (Value.ref 14), some (Value.long (zL (sm (fun i => p i i) (qN D)))), none, some (Value.long (zL W)), none] [] (xSH, xRF, I, L) 0 0 (fun o σ' => xi_V (xG L0 xs) 81 58 [some (Value.ref 0), some (Value.long (zL (sm (fun i => p i i) (qN D)))), none, some (Value.int (nI (qN D)))] (o.toList ++ []) σ' 0 0 Q)) :
    ∀ (n i : Nat), i + n = qN D → xi_V (xG L0 xs) 81 15 [some (Value.ref 0), some (Value.long (zL (sm (fun i => p i i) i))), none, some (Value.int (nI i))] [] (xSH, xRF, I, L) 0 0 Q
  | 0, i, hn => by
    have h10 := hC.1
    refine b_D_many_15 ?_
    rw [hI.1, hk.1]
    rw [show i = qN D by omega]
    exact pk_le (qN D) (qN D) (fun _ => hQ) (fun c => absurd c (by omega))
  | n + 1, i, hn => by
    have h10 := hC.1
    have ih := c_kMany_lp hC hI hk hQ n (i + 1) (by omega)
    rw [sm_s] at ih
    refine b_D_many_15 ?_
    rw [hI.1]
    refine pk_le (qN D) i (fun c => absurd c (by omega)) (fun c => c_kWN hC hk c (b_D_many_35 ?_))
    rw [zL_add, nI_1]
    exact ih
theorem sm_bd {f : Nat → Int} {B : Int} : ∀ n : Nat, (∀ k, k < n → 0 ≤ f k ∧ f k ≤ B) → 0 ≤ sm f n ∧ sm f n ≤ B * n
  | 0, _ => by rw [sm]; simp
  | n + 1, h => by
    have ih := sm_bd (f := f) (B := B) n (fun k hk => h k (by omega))
    have hn := h n (Nat.lt_succ_self n)
    rw [sm_s, Int.natCast_succ, Int.mul_add, Int.mul_one]
    omega
theorem o_kMany (h : kR I L D sl x y)
    (hQ : ∀ I' L', kFr I I' L L' → kR I' L' D sl (rN (mnD D (2 ^ qN D)) (al D)) (rD (mnD D (2 ^ qN D)) (al D)) → Q none (xSH, xRF, I', L')) : xi_V (xG L0 xs) 81 0 [some (Value.ref 0), none, none, none] [] (xSH, xRF, I, L) 0 0 Q := by
  have h10 := h.1.1.1
  refine b_D_many_0 (c_kPrep h (fun I1 L1 fr1 h1 kw => b_D_many_11 ?_))
  obtain ⟨W, p, hk, hr, -⟩ := kP_of kw
  have hb : bU = 19531250000000000 := rfl
  have hW := hr.1
  have hs := sm_bd (f := fun i => p i i) (B := bU) (qN D) (fun k hk2 => ⟨(hr.2 k k (Nat.le_refl k) hk2).1, Int.le_trans (hr.2 k k (Nat.le_refl k) hk2).2.1 hW.2⟩)
  rw [hb] at hs
  have hm := mn_sum h.1 hr
  refine c_kMany_lp h.1.1 h1.2.1 hk (c_fPut (by omega) (by omega) (fun I2 L2 f1 f2 r => b_D_many_58 ?_)) (qN D) 0 (Nat.zero_add _)
  have e := rN_eq (a := sm (fun i => p i i) (qN D)) (b := W) (c := mnD D (2 ^ qN D)) (d := al D) (by omega) (al_pos h.1) (by rw [Int.mul_comm, ← hm, Int.mul_comm])
  rw [e.1, e.2] at r
  have t := k_end h1 fr1 f1 (fun a a1 a2 a3 _ _ => f2 a a1 a2 a3) r
  exact hQ _ _ t.1 t.2
theorem c_kWm_lp (hC : okC D) (hI : kC I D) (hr : rat D W p) (hk : kP L D W p)
    (hQ : Q (some (Value.int (zI (wmD D p (qN D))))) (xSH, xRF, I, L)) :
    ∀ (n i : Nat), i + n = qN D → xi_V (xG L0 xs) 103 4 [some (Value.ref 0), some (Value.int (zI (wmD D p i))), some (Value.int (nI i))] [] (xSH, xRF, I, L) 0 0 Q
  | 0, i, hn => by
    have h10 := hC.1
    refine b_D_worthThatMayBeDrawn_4 ?_
    rw [hI.1]
    rw [show i = qN D by omega]
    exact pk_le (qN D) (qN D) (fun _ => hQ) (fun c => absurd c (by omega))
  | n + 1, i, hn => by
    have h10 := hC.1
    have hi : i < qN D := by omega
    have hp := hr.2 i i (Nat.le_refl i) hi
    have ih := c_kWm_lp hC hI hr hk hQ n (i + 1) (by omega)
    rw [wmD] at ih
    refine b_D_worthThatMayBeDrawn_4 ?_
    rw [hI.1]
    refine pk_le (qN D) i (fun c => absurd c (by omega)) (fun c => c_kWN hC hk c (b_D_worthThatMayBeDrawn_23 ?_))
    rw [pos_iff ⟨hp.1, Int.le_trans hp.2.1 hr.1.2⟩, nI_clamp (by omega), (hI.2.1 i hi).1, zI_add, nI_1]
    refine ⟨fun c => ?_, fun c => ⟨pk_in i 10 (by omega), ?_⟩⟩
    · rw [if_neg c, Int.add_zero] at ih
      exact ih
    · rw [if_pos (Decidable.not_not.mp c)] at ih
      exact ih
theorem c_kWm (hC : okC D) (hI : kC I D) (hr : rat D W p) (hk : kP L D W p)
    (hQ : Q (some (Value.int (zI (wmD D p (qN D))))) (xSH, xRF, I, L)) : xi_V (xG L0 xs) 103 0 [some (Value.ref 0), none, none] [] (xSH, xRF, I, L) 0 0 Q :=
  b_D_worthThatMayBeDrawn_0 (c_kWm_lp hC hI hr hk hQ (qN D) 0 (Nat.zero_add _))
theorem o_kMean (h : kR I L D sl x y)
    (hQ : ∀ I' L', kFr I I' L L' → kR I' L' D sl (rN (fD D (2 ^ qN D)) (al D * cmn D (qN D))) (rD (fD D (2 ^ qN D)) (al D * cmn D (qN D))) → Q none (xSH, xRF, I', L')) : xi_V (xG L0 xs) 83 0 [some (Value.ref 0)] [] (xSH, xRF, I, L) 0 0 Q := by
  have h10 := h.1.1.1
  refine b_D_mean_0 (c_kPrep h (fun I1 L1 fr1 h1 kw => b_D_mean_11 ?_))
  obtain ⟨W, p, hk, hr, -⟩ := kP_of kw
  have hw := wm_b h.1.1 p (qN D) (Nat.le_refl _)
  have hc := Int.mul_pos (al_pos h.1) (Int.lt_of_lt_of_le Int.zero_lt_one (cmn_b h.1 (qN D) (Nat.le_refl _)).1)
  have hf := fD_wm h.1 hr
  refine c_kWm h.1.1 h1.2.1 hr hk (b_D_mean_19 ?_)
  rw [zI_L (by omega) (by omega)]
  refine c_fPut (d := 1) (by omega) (by decide) (fun I2 L2 f1 f2 r => b_D_mean_24 ?_)
  have e := rN_eq (a := wmD D p (qN D)) (b := 1) (c := fD D (2 ^ qN D)) (d := al D * cmn D (qN D)) (by decide) hc (by rw [hf, Int.mul_one, Int.mul_comm])
  rw [e.1, e.2] at r
  have t := k_end h1 fr1 f1 (fun a a1 a2 a3 _ _ => f2 a a1 a2 a3) r
  exact hQ _ _ t.1 t.2
end KB
