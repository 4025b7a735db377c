/-! the class tells sums and spreads -/
theorem ab_mul {x p A : Int} {B : Int} (hx : -A ≤ x ∧ x ≤ A) (hp : 0 ≤ p ∧ p ≤ B) (hA : 0 ≤ A) : -(A * B) ≤ x * p ∧ x * p ≤ A * B := mulS hx (by omega)
theorem tv_b {p : Nat → Nat → Int} {c : Nat → Prop} : ∀ n, (∀ i, i < n → p i i ≤ bU ∧ (c i → 0 < p i i)) → 1 ≤ tv p c n ∧ tv p c n ≤ bU ^ n
  | 0, _ => by rw [tv, Int.pow_zero]; decide
  | n + 1, h => by
    have ih := tv_b n (fun i hi => h i (by omega))
    have hn := h n (Nat.lt_succ_self n)
    rw [tv]
    by_cases z : c n
    · rw [if_pos z, Int.pow_succ]
      have h1 := hn.2 z
      have h2 := (mulb (x := tv p c n) (y := p n n) ⟨by omega, ih.2⟩ ⟨by omega, hn.1⟩).2
      have h3 : 1 * 1 ≤ tv p c n * p n n := Int.mul_le_mul ih.1 (by omega) (by decide) (by omega)
      exact ⟨by omega, h2⟩
    · rw [if_neg z]
      exact ⟨ih.1, Int.le_trans ih.2 (bU_mono (Nat.le_succ n))⟩
theorem bU_pos (n : Nat) : 0 < bU ^ n := Int.pow_pos (by decide)
theorem tu_b {a : Nat → Int} {p : Nat → Nat → Int} {c : Nat → Prop} {A : Int} (hA : 0 ≤ A) : ∀ n : Nat, (∀ i, i < n → (p i i ≤ bU ∧ (c i → 0 < p i i)) ∧ -A ≤ a i ∧ a i ≤ A) → -(A * n * bU ^ n) ≤ tu a p c n * bU ∧ tu a p c n * bU ≤ A * n * bU ^ n
  | 0, _ => by
    rw [tu, Int.pow_zero, Int.zero_mul]
    simp
  | n + 1, h => by
    have ih := tu_b (a := a) (p := p) (c := c) hA n (fun i hi => h i (by omega))
    have hn := h n (Nat.lt_succ_self n)
    have ht := tv_b (p := p) (c := c) n (fun i hi => (h i (by omega)).1)
    have hU := bU_pos n
    have hAn : 0 ≤ A * n := Int.mul_nonneg hA (Int.natCast_nonneg n)
    have e0 : A * ((n + 1 : Nat) : Int) * bU ^ (n + 1) = A * n * bU ^ n * bU + A * (bU ^ n * bU) := by
      rw [Int.natCast_succ, Int.pow_succ, Int.mul_add, Int.mul_one, Int.add_mul, Int.mul_assoc (A * n)]
    have hbig : A * n * bU ^ n ≤ A * ((n + 1 : Nat) : Int) * bU ^ (n + 1) := by
      rw [e0]
      have h1 : 0 ≤ A * (bU ^ n * bU) := Int.mul_nonneg hA (Int.mul_nonneg (Int.le_of_lt hU) (by decide))
      have h2 : A * n * bU ^ n * 1 ≤ A * n * bU ^ n * bU := Int.mul_le_mul_of_nonneg_left (by decide) (Int.mul_nonneg hAn (Int.le_of_lt hU))
      omega
    rw [tu]
    by_cases z : c n
    · rw [if_pos z]
      have h1 := hn.1.2 z
      have m1 := ab_mul (x := tu a p c n * bU) (p := p n n) (A := A * n * bU ^ n) (B := bU) ih ⟨by omega, hn.1.1⟩ (Int.mul_nonneg hAn (Int.le_of_lt hU))
      have m2 := mulS (x := a n) (y := tv p c n * bU) (A := A) (B := bU ^ n * bU) hn.2 (by
        have := mulb (x := tv p c n) (y := bU) (A := bU ^ n) (B := bU) ⟨by omega, ht.2⟩ ⟨by decide, by decide⟩
        omega)
      have e1 : (tu a p c n * p n n + tv p c n * a n) * bU = tu a p c n * bU * p n n + a n * (tv p c n * bU) := by grind
      rw [e1, e0]
      omega
    · rw [if_neg z]
      omega
theorem bU_cancel {x y : Int} (h : x * bU ≤ y * bU) : x ≤ y := Int.le_of_mul_le_mul_right h (by decide)
theorem sts_b {D : xD} {p : Nat → Nat → Int} (hC : okC D) : ∀ n : Nat, n ≤ qN D → (∀ i j, j ≤ i → i < n → 0 ≤ p i j ∧ p i j ≤ bU) → -(10000 * (n * n : Nat) * bU ^ n) ≤ sts D p (fun j => 0 < p j j) n * bU ∧ sts D p (fun j => 0 < p j j) n * bU ≤ 10000 * (n * n : Nat) * bU ^ n
  | 0, _, _ => by
    rw [sts, Int.pow_zero, Int.zero_mul]
    simp
  | n + 1, hN, h => by
    have ih := sts_b hC n (by omega) (fun i j hij hi => h i j hij (by omega))
    have hW := (hC.2 n (by omega)).1
    have ht := tv_b (p := p) (c := fun j => 0 < p j j) n (fun i hi => ⟨(h i i (Nat.le_refl i) (by omega)).2, fun z => z⟩)
    have ha := tu_b (a := fun j => qW D j * p n j) (p := p) (c := fun j => 0 < p j j) (A := 100 * bU) (by decide) n (fun i hi => ⟨⟨(h i i (Nat.le_refl i) (by omega)).2, fun z => z⟩, by
      have hw := (hC.2 i (by omega)).1
      have hp := h n i (by omega) (Nat.lt_succ_self n)
      exact ab_mul hw hp (by decide)⟩)
    have hU := bU_pos n
    have hpn := h n n (Nat.le_refl n) (Nat.lt_succ_self n)
    have e0 : (10000 : Int) * (((n + 1) * (n + 1) : Nat) : Int) * bU ^ (n + 1) = 10000 * (n * n : Nat) * bU ^ n * bU + 20000 * n * (bU ^ n * bU) + 10000 * (bU ^ n * bU) := by
      rw [Int.pow_succ, Int.natCast_mul, Int.natCast_mul, Int.natCast_succ]
      grind
    have hX : 0 ≤ bU ^ n * bU := Int.mul_nonneg (Int.le_of_lt hU) (by decide)
    have hnn : (0 : Int) ≤ 10000 * (n * n : Nat) * bU ^ n := Int.mul_nonneg (by omega) (Int.le_of_lt hU)
    rw [sts]
    by_cases z : 0 < p n n
    · rw [if_pos z]
      have m1 := ab_mul (x := sts D p (fun j => 0 < p j j) n * bU) (p := p n n) (A := 10000 * (n * n : Nat) * bU ^ n) (B := bU) ih ⟨by omega, hpn.2⟩ hnn
      have hww := mulS hW hW
      have m2 := mulS (x := qW D n * qW D n) (y := tv p (fun j => 0 < p j j) n * bU) (A := 100 * 100) (B := bU ^ n * bU) hww (by
        have := mulb (x := tv p (fun j => 0 < p j j) n) (y := bU) (A := bU ^ n) (B := bU) ⟨by omega, ht.2⟩ ⟨by decide, by decide⟩
        omega)
      have m3 := mulS (x := tu (fun j => qW D j * p n j) p (fun j => 0 < p j j) n * bU) (y := 2 * qW D n) (A := 100 * bU * n * bU ^ n) (B := 200) ha (by omega)
      have e3 : 100 * bU * (n : Int) * bU ^ n * 200 = 20000 * n * (bU ^ n * bU) := by grind
      rw [e3] at m3
      have e1 : (sts D p (fun j => 0 < p j j) n * p n n + tv p (fun j => 0 < p j j) n * (qW D n * qW D n) + tu (fun j => qW D j * p n j) p (fun j => 0 < p j j) n * (2 * qW D n)) * bU = sts D p (fun j => 0 < p j j) n * bU * p n n + qW D n * qW D n * (tv p (fun j => 0 < p j j) n * bU) + tu (fun j => qW D j * p n j) p (fun j => 0 < p j j) n * bU * (2 * qW D n) := by grind
      rw [e1, e0]
      have e4 : (100 : Int) * 100 * (bU ^ n * bU) = 10000 * (bU ^ n * bU) := rfl
      rw [e4] at m2
      clear e0 e1 e3 e4 ha ih ht
      generalize sts D p (fun j => 0 < p j j) n * bU * p n n = x1 at *
      generalize qW D n * qW D n * (tv p (fun j => 0 < p j j) n * bU) = x2 at *
      generalize tu (fun j => qW D j * p n j) p (fun j => 0 < p j j) n * bU * (2 * qW D n) = x3 at *
      generalize 20000 * (n : Int) * (bU ^ n * bU) = x4 at *
      generalize bU ^ n * bU = x5 at *
      generalize 10000 * ((n * n : Nat) : Int) * bU ^ n * bU = x6 at *
      omega
    · rw [if_neg z, e0]
      have h2 : 10000 * ((n * n : Nat) : Int) * bU ^ n * 1 ≤ 10000 * ((n * n : Nat) : Int) * bU ^ n * bU := Int.mul_le_mul_of_nonneg_left (by decide) hnn
      have h3 : 0 ≤ 20000 * (n : Int) * (bU ^ n * bU) := Int.mul_nonneg (by omega) hX
      rw [Int.mul_one] at h2
      clear e0
      generalize sts D p (fun j => 0 < p j j) n * bU = x1 at *
      generalize 20000 * (n : Int) * (bU ^ n * bU) = x4 at *
      generalize bU ^ n * bU = x5 at *
      generalize 10000 * ((n * n : Nat) : Int) * bU ^ n * bU = x6 at *
      generalize 10000 * ((n * n : Nat) : Int) * bU ^ n = x7 at *
      omega
theorem wm_b {D : xD} (hC : okC D) (p : Nat → Nat → Int) : ∀ n : Nat, n ≤ qN D → -(100 * (n : Int)) ≤ wmD D p n ∧ wmD D p n ≤ 100 * n
  | 0, _ => by rw [wmD]; decide
  | n + 1, h => by
    have ih := wm_b hC p n (by omega)
    have hW := (hC.2 n (by omega)).1
    rw [wmD]
    split <;> omega
/-- the weights as they lie there -/
def kP (L : Nat → Nat → Int64) (D : xD) (W : Int) (p : Nat → Nat → Int) : Prop := L 10 6 = zL W ∧ ∀ i j, j ≤ i → i < qN D → L 13 (10 * i + j) = zL (p i j)
def fK (L L' : Nat → Nat → Int64) : Prop := ∀ a, a ≠ 16 → a ≠ 18 → a ≠ 20 → a ≠ 23 → a ≠ 25 → L' a = L a
theorem fK_rf {L : Nat → Nat → Int64} : fK L L := fun _ _ _ _ _ _ => rfl
theorem fK_tr {L L' L2 : Nat → Nat → Int64} (h : fK L L') (h2 : fK L' L2) : fK L L2 := fun a a1 a2 a3 a4 a5 => (h2 a a1 a2 a3 a4 a5).trans (h a a1 a2 a3 a4 a5)
theorem kP_f {L L' : Nat → Nat → Int64} {D : xD} {W : Int} {p : Nat → Nat → Int} (f : fK L L') (h : kP L D W p) : kP L' D W p := by
  unfold kP at *
  rw [f 10 (by decide) (by decide) (by decide) (by decide) (by decide), f 13 (by decide) (by decide) (by decide) (by decide) (by decide)]
  exact h
theorem kP_of {L : Nat → Nat → Int64} {D : xD} (h : kW L D) : ∃ W p, kP L D W p ∧ rat D W p ∧ ∃ wc : Nat → Int, ∀ s, s < 2 ^ qN D → L 12 s = zL (wc s) ∧ 0 ≤ wc s ∧ wc s ≤ 19531250000000000 ∧ (wc s = 0 ↔ wt D s = 0) ∧ (qK D ≠ 3 → W * wt D s = al D * wc s) := by
  obtain ⟨W, wc, pr, h1, h2, h3, h4⟩ := h
  exact ⟨W, pr, ⟨h1, fun i j hij hi => (h3 i j hij hi).1⟩, ⟨h2, fun i j hij hi => (h3 i j hij hi).2⟩, wc, h4⟩
section KT
variable {L0 : Nat} {xs : Nat → Int32} {Q : xiQ} {I : Nat → Nat → Int32} {L : Nat → Nat → Int64}
variable {D : xD} {sl : xL} {x y W : Int} {p : Nat → Nat → Int}
theorem c_kWN (hC : okC D) (hk : kP L D W p) {i : Nat} (hi : i < qN D) (hQ : Q (some (Value.long (zL (p i i)))) (xSH, xRF, I, L)) : xi_V (xG L0 xs) 41 0 [some (Value.ref 10), some (Value.int (nI i))] [] (xSH, xRF, I, L) 0 0 Q := by
  have h10 := hC.1
  refine b_Lots_weightOfName_0 ?_
  rw [show (10 : Int32) = nI 10 from rfl, pk_mul, nI_add, Nat.mul_comm i 10, nI_clamp (by omega), hk.2 i i (Nat.le_refl i) hi]
  exact ⟨pk_in (10 * i + i) 100 (by omega), hQ⟩
theorem c_kWP (hC : okC D) (hk : kP L D W p) {i j : Nat} (hi : i < qN D) (hj : j < qN D) (hQ : Q (some (Value.long (zL (if j ≤ i then p i j else p j i)))) (xSH, xRF, I, L)) : xi_V (xG L0 xs) 42 0 [some (Value.ref 10), some (Value.int (nI i)), some (Value.int (nI j))] [] (xSH, xRF, I, L) 0 0 Q := by
  have h10 := hC.1
  have fin : ∀ a b : Nat, b ≤ a → a < qN D → (if j ≤ i then p i j else p j i) = p a b → xi_V (xG L0 xs) 42 17 [some (Value.ref 10), some (Value.int (nI i)), some (Value.int (nI j))] [Value.int (nI b), Value.int (nI a * 10), Value.ref 13] (xSH, xRF, I, L) 0 0 Q := by
    intro a b hab ha e
    refine b_Lots_weightOfPair_17 ?_
    rw [show (10 : Int32) = nI 10 from rfl, pk_mul, nI_add, Nat.mul_comm a 10, nI_clamp (by omega), hk.2 a b hab ha, ← e]
    exact ⟨pk_in (10 * a + b) 100 (by omega), hQ⟩
  refine b_Lots_weightOfPair_0 (b_Math_max_0 (pk_lt i j (fun c => b_Lots_weightOfPair_9 (b_Math_min_0 (pk_lt j i (fun c2 => absurd c2 (by omega)) (fun _ => fin j i (by omega) hj (by rw [if_neg (by omega)]))))) (fun c => b_Lots_weightOfPair_9 (b_Math_min_0 (pk_lt j i (fun c2 => fin i j (by omega) hi (by rw [if_pos c])) (fun c2 => ?_))))))
  have e : i = j := by omega
  subst e
  exact fin i i (Nat.le_refl i) hi (by rw [if_pos (Nat.le_refl i)])
theorem pos_iff {a : Int} (h : 0 ≤ a ∧ a ≤ bU) : lg_cmp (zL a) 0 ≤ (0 : Int32) ↔ ¬ 0 < a := by
  have hb : bU = 19531250000000000 := rfl
  rw [cmp_le, Int64.lt_iff_toInt_lt, m_z0, zL_t (by omega) (by omega)]
theorem c_kTally_lp (hC : okC D) (hI : kC I D) (hr : rat D W p) {s : Nat} (hs : s < 1024) (hk : kP L D W p)
    (hQ : ∀ L', fK L L' → Bg (L' 23) (tu (qW D) p (fun i => bt s i = 1 ∧ 0 < p i i) (qN D)) → xi_V (xG L0 xs) 9 0 [some (Value.ref 15), some (Value.long ((0 : Int64))), none, none, none, none] [] (xSH, xRF, I, L') 0 0 (fun o σ' => xi_V (xG L0 xs) 101 84 [some (Value.ref 0), some (Value.int (nI s)), some (Value.int (nI (qN D)))] (o.toList ++ []) σ' 0 0 Q)) :
    ∀ (n i : Nat) (L1 : Nat → Nat → Int64), i + n = qN D → fK L L1 → Bg (L1 23) (tu (qW D) p (fun i => bt s i = 1 ∧ 0 < p i i) i) → Bg (L1 25) (tv p (fun i => bt s i = 1 ∧ 0 < p i i) i) → xi_V (xG L0 xs) 101 9 [some (Value.ref 0), some (Value.int (nI s)), some (Value.int (nI i))] [] (xSH, xRF, I, L1) 0 0 Q
  | 0, i, L1, hn, f, h23, h25 => by
    have h10 := hC.1
    refine b_D_tellSum_9 ?_
    rw [hI.1]
    rw [show i = qN D by omega] at h23 ⊢
    exact pk_le (qN D) (qN D) (fun _ => hQ L1 f h23) (fun c => absurd c (by omega))
  | n + 1, i, L1, hn, f, h23, h25 => by
    have h10 := hC.1
    have hi : i < qN D := by omega
    have hp := hr.2 i i (Nat.le_refl i) hi
    have hpU : 0 ≤ p i i ∧ p i i ≤ bU := ⟨hp.1, Int.le_trans hp.2.1 hr.1.2⟩
    have hb : bU = 19531250000000000 := rfl
    have hW := (hC.2 i hi).1
    have skip : ¬ (bt s i = 1 ∧ 0 < p i i) → xi_V (xG L0 xs) 101 67 [some (Value.ref 0), some (Value.int (nI s)), some (Value.int (nI i))] [] (xSH, xRF, I, L1) 0 0 Q := by
      intro c
      refine b_D_tellSum_67 ?_
      rw [nI_1]
      refine c_kTally_lp hC hI hr hs hk hQ n (i + 1) L1 (by omega) f ?_ ?_
      · rw [tu, if_neg c]; exact h23
      · rw [tv, if_neg c]; exact h25
    refine b_D_tellSum_9 ?_
    rw [hI.1, bt_I (by omega) (by omega), bt_is1]
    refine pk_le (qN D) i (fun c => absurd c (by omega)) (fun _ => ⟨fun e => skip (fun z => e z.1), fun e => c_kWN hC (kP_f f hk) hi (b_D_tellSum_37 ?_)⟩)
    rw [pos_iff hpU]
    refine ⟨fun c => skip (fun z => c z.2), fun c => ⟨pk_in i 10 (by omega), c_kWN hC (kP_f f hk) hi (b_D_tellSum_64 ?_)⟩⟩
    have cc : bt s i = 1 ∧ 0 < p i i := ⟨e, Decidable.not_not.mp c⟩
    rw [nI_clamp (by omega), (hI.2.1 i hi).1, zI_L (by omega) (by omega)]
    refine c_tAdd (by omega) (by omega) h23 h25 (fun L2 f2 g23 g25 => b_D_tellSum_67 ?_)
    rw [nI_1]
    refine c_kTally_lp hC hI hr hs hk hQ n (i + 1) L2 (by omega) (fK_tr f (fun a _ _ _ a4 a5 => f2 a a4 a5)) ?_ ?_
    · rw [tu, if_pos cc]; exact g23
    · rw [tv, if_pos cc]; exact g25
/-- divideByNames -/
theorem c_kDivN_lp (hC : okC D) (hI : kC I D) (hr : rat D W p) {s : Nat} (hs : s < 1024) (hk : kP L D W p) {T : Nat}
    (hQ : ∀ L' (t b : Nat), fK L L' → Bx (L' 16) (t : Int) → Bx (L' 18) (b : Int) → Nat.gcd t b = 1 → (t : Int) * tv p (fun i => bt s i = 1 ∧ 0 < p i i) (qN D) = (T : Int) * (b : Int) → Q none (xSH, xRF, I, L')) :
    ∀ (n i : Nat) (L1 : Nat → Nat → Int64) (t b : Nat), i + n = qN D → fK L L1 → Bx (L1 16) (t : Int) → Bx (L1 18) (b : Int) → Nat.gcd t b = 1 → (t : Int) * tv p (fun i => bt s i = 1 ∧ 0 < p i i) i = (T : Int) * (b : Int) → xi_V (xG L0 xs) 102 2 [some (Value.ref 0), some (Value.int (nI s)), some (Value.int (nI i))] [] (xSH, xRF, I, L1) 0 0 Q
  | 0, i, L1, t, b, hn, f, h16, h18, hg, he => by
    have h10 := hC.1
    refine b_D_divideByNames_2 ?_
    rw [hI.1]
    rw [show i = qN D by omega] at he ⊢
    exact pk_le (qN D) (qN D) (fun _ => hQ L1 t b f h16 h18 hg he) (fun c => absurd c (by omega))
  | n + 1, i, L1, t, b, hn, f, h16, h18, hg, he => by
    have h10 := hC.1
    have hi : i < qN D := by omega
    have hp := hr.2 i i (Nat.le_refl i) hi
    have hpU : 0 ≤ p i i ∧ p i i ≤ bU := ⟨hp.1, Int.le_trans hp.2.1 hr.1.2⟩
    have hb : bU = 19531250000000000 := rfl
    have skip : ¬ (bt s i = 1 ∧ 0 < p i i) → xi_V (xG L0 xs) 102 50 [some (Value.ref 0), some (Value.int (nI s)), some (Value.int (nI i))] [] (xSH, xRF, I, L1) 0 0 Q := by
      intro c
      refine b_D_divideByNames_50 ?_
      rw [nI_1]
      refine c_kDivN_lp hC hI hr hs hk hQ n (i + 1) L1 t b (by omega) f h16 h18 hg ?_
      rw [tv, if_neg c]; exact he
    refine b_D_divideByNames_2 ?_
    rw [hI.1, bt_I (by omega) (by omega), bt_is1]
    refine pk_le (qN D) i (fun c => absurd c (by omega)) (fun _ => ⟨fun e => skip (fun z => e z.1), fun e => c_kWN hC (kP_f f hk) hi (b_D_divideByNames_30 ?_)⟩)
    rw [pos_iff hpU]
    refine ⟨fun c => skip (fun z => c z.2), fun c => c_kWN hC (kP_f f hk) hi (b_D_divideByNames_47 ?_)⟩
    have cc : bt s i = 1 ∧ 0 < p i i := ⟨e, Decidable.not_not.mp c⟩
    obtain ⟨d, hd⟩ : ∃ d : Nat, p i i = (d : Int) := ⟨(p i i).toNat, by omega⟩
    have htv := tv_b (p := p) (c := fun i => bt s i = 1 ∧ 0 < p i i) i (fun k hk2 => by
      have := hr.2 k k (Nat.le_refl k) (by omega)
      exact ⟨Int.le_trans this.2.1 hr.1.2, fun z => z.2⟩)
    -- the bottom is no more than the product
    obtain ⟨v, hv⟩ : ∃ v : Nat, tv p (fun i => bt s i = 1 ∧ 0 < p i i) i = (v : Int) := ⟨(tv p (fun i => bt s i = 1 ∧ 0 < p i i) i).toNat, by omega⟩
    have heN : t * v = T * b := by
      rw [hv] at he
      exact Int.ofNat_inj.mp (by rw [Int.natCast_mul, Int.natCast_mul]; exact he)
    have hbv : b ≤ v := by
      have hdv : b ∣ t * v := ⟨T, by rw [heN, Nat.mul_comm]⟩
      have hco : Nat.Coprime b t := by unfold Nat.Coprime; rw [Nat.gcd_comm]; exact hg
      exact Nat.le_of_dvd (by omega) (hco.dvd_of_dvd_mul_left hdv)
    have hbd : ((b * d : Nat) : Int) < nB ^ 20 := by
      have h1 := (mulb (x := (b : Int)) (y := (d : Int)) (A := bU ^ i) (B := bU) ⟨by omega, by omega⟩ ⟨by omega, by omega⟩).2
      rw [← Int.pow_succ] at h1
      rw [Int.natCast_mul]
      exact Int.lt_of_le_of_lt h1 (Int.lt_of_le_of_lt (bU_mono (show i.succ ≤ 10 by omega)) (by decide +kernel))
    rw [hd]
    refine c_fDiv (d := d) (by omega) h16 h18 hbd (fun L2 f2 g16 g18 => b_D_divideByNames_50 ?_)
    rw [nI_1]
    have hgp : 0 < Nat.gcd t d := Nat.gcd_pos_of_pos_right _ (by omega)
    refine c_kDivN_lp hC hI hr hs hk hQ n (i + 1) L2 (t / Nat.gcd t d) (b * (d / Nat.gcd t d)) (by omega) (fK_tr f (fun a a1 a2 a3 _ _ => f2 a a1 a2 a3)) g16 g18 ?_ ?_
    · have c1 : Nat.Coprime (t / Nat.gcd t d) b := by
        have : t / Nat.gcd t d ∣ t := Nat.div_dvd_of_dvd (Nat.gcd_dvd_left t d)
        exact Nat.Coprime.coprime_dvd_left this hg
      have c2 : Nat.Coprime (t / Nat.gcd t d) (d / Nat.gcd t d) := Nat.coprime_div_gcd_div_gcd hgp
      exact Nat.Coprime.mul_right c1 c2
    · rw [tv, if_pos cc, hv, hd]
      have e1 : t / Nat.gcd t d * (v * d) = T * (b * (d / Nat.gcd t d)) := by
        refine Nat.eq_of_mul_eq_mul_right hgp ?_
        have a1 : t / Nat.gcd t d * Nat.gcd t d = t := Nat.div_mul_cancel (Nat.gcd_dvd_left t d)
        have a2 : d / Nat.gcd t d * Nat.gcd t d = d := Nat.div_mul_cancel (Nat.gcd_dvd_right t d)
        rw [Nat.mul_right_comm, a1, Nat.mul_assoc T, Nat.mul_assoc b, a2, ← Nat.mul_assoc, heN, Nat.mul_assoc]
      have := congrArg (fun n : Nat => (n : Int)) e1
      simp only [Int.natCast_mul] at this ⊢
      exact this
/-- what stands there once all is divided -/
theorem res_of {I' : Nat → Nat → Int32} {L' : Nat → Nat → Int64} {T S : Int} {t b : Nat} (hS : 0 < S) (hs : I' 14 0 = zI (Int.sign T)) (h16 : Bx (L' 16) (t : Int)) (h18 : Bx (L' 18) (b : Int)) (hg : Nat.gcd t b = 1) (he : (t : Int) * S = (T.natAbs : Int) * (b : Int)) : kRes I' L' (rN T S) (rD T S) := by
  have hr := rN_abs (x := T) hS
  have heN : t * S.natAbs = T.natAbs * b := by
    have : ((S.natAbs : Nat) : Int) = S := by omega
    rw [← this] at he
    exact Int.ofNat_inj.mp (by rw [Int.natCast_mul, Int.natCast_mul]; exact he)
  have hl := low_terms (by omega) hg heN
  refine ⟨by rw [hr.2.2.1]; exact hs, ?_, ?_, hr.2.2.2⟩
  · rw [hr.1, hl.1]; exact h16
  · rw [hr.2.1, hl.2]; exact h18
theorem o_kSum (h : kR I L D sl x y) {s : Nat} (hs : s < 2 ^ qN D)
    (hQ : ∀ I' L', kFr I I' L L' → kR I' L' D sl (rN (tD D s (qN D)) (cmn D (qN D))) (rD (tD D s (qN D)) (cmn D (qN D))) → Q (some (Value.int 1)) (xSH, xRF, I', L')) : xi_V (xG L0 xs) 82 0 [some (Value.ref 0), some (Value.int (nI s))] [] (xSH, xRF, I, L) 0 0 Q := by
  have h10 := h.1.1.1
  have hp2 := p2_lt h10.2
  refine b_D_sum_0 (c_kIsSet1 h.1.1 h.2.1 hs (b_D_sum_5 ⟨fun _ => c_kPrep h (fun I1 L1 fr1 h1 kw => b_D_sum_21 (b_D_tellSum_0 ?_)), fun c => absurd c (by decide)⟩))
  obtain ⟨W, p, hk, hr, -⟩ := kP_of kw
  have hI1 := h1.2.1
  refine c_tClear (fun L2 f2 g23 g25 => b_D_tellSum_7 ?_)
  have fk2 : fK L1 L2 := fun a _ _ _ a4 a5 => f2 a a4 a5
  refine c_kTally_lp (L := L1) h.1.1 hI1 hr (by omega) hk (fun L3 f3 t23 => c_bBecome (Or.inl ⟨rfl, rfl⟩) (fun g hg => b_D_tellSum_84 ?_)) (qN D) 0 L2 (Nat.zero_add _) fk2 g23 g25
  rw [m_z0] at hg
  have hb : bU = 19531250000000000 := rfl
  have hW := hr.1
  have eW : (zL W).toInt = W := zL_t (by omega) (by omega)
  rw [m_rn (by decide), (kP_f f3 hk).1]
  refine c_bAdd (Or.inl ⟨rfl, rfl, rfl, rfl⟩) (by rw [m_rs]; exact hg) (by rw [m_rn (by decide)]; exact t23) (by rw [eW]; omega) (fun g2 hg2 => b_D_tellSum_108 ?_)
  rw [eW, Int.zero_add] at hg2
  have htu := tu_b (a := qW D) (p := p) (c := fun i => bt s i = 1 ∧ 0 < p i i) (A := 100) (by decide) (qN D) (fun i hi => ⟨⟨Int.le_trans (hr.2 i i (Nat.le_refl i) hi).2.1 hW.2, fun z => z.2⟩, (h.1.1.2 i hi).1⟩)
  have hTb : -(1000 * bU ^ 10) ≤ tu (qW D) p (fun i => bt s i = 1 ∧ 0 < p i i) (qN D) * W ∧ tu (qW D) p (fun i => bt s i = 1 ∧ 0 < p i i) (qN D) * W ≤ 1000 * bU ^ 10 := by
    have hm : (100 : Int) * (qN D : Nat) * bU ^ qN D ≤ 1000 * bU ^ 10 := (mulb (x := 100 * (qN D : Int)) (y := bU ^ qN D) (A := 1000) (B := bU ^ 10) (by omega) ⟨Int.le_of_lt (bU_pos _), bU_mono h10.2⟩).2
    generalize tu (qW D) p (fun i => bt s i = 1 ∧ 0 < p i i) (qN D) = u at *
    have h0 := bU_pos 10
    rcases Int.le_total 0 u with c | c
    · have a1 : u * W ≤ u * bU := Int.mul_le_mul_of_nonneg_left hW.2 c
      have a2 : 0 ≤ u * W := Int.mul_nonneg c (by omega)
      omega
    · have a1 : u * bU ≤ u * W := Int.mul_le_mul_of_nonpos_left c hW.2
      have a2 : u * W ≤ 0 := Int.mul_nonpos_of_nonpos_of_nonneg c (by omega)
      omega
  have hbig : 2 * (1000 * bU ^ 10) < nB ^ 20 := by decide +kernel
  refine c_fTake (T := tu (qW D) p (fun i => bt s i = 1 ∧ 0 < p i i) (qN D) * W) (by rw [m_rs]; exact hg2) (by generalize nB ^ 20 = P at *; omega) (by generalize nB ^ 20 = P at *; omega) (fun I4 L4 f4 s4 f5 b16 b18 => b_D_tellSum_115 (b_D_divideByNames_0 ?_))
  have fk4 : fK L1 L4 := fK_tr f3 (fun a a1 a2 _ _ _ => by rw [f5 a a1 a2, m_rn a1, m_rn a1])
  have hI4 : kC I4 D := kC_of (fun a a1 a2 => f4 a (by omega)) hI1
  refine c_kDivN_lp (L := L4) h.1.1 hI4 hr (by omega) (kP_f fk4 hk) (T := (tu (qW D) p (fun i => bt s i = 1 ∧ 0 < p i i) (qN D) * W).natAbs) (fun L5 t b f6 c16 c18 hg he => b_D_tellSum_120 (b_D_sum_26 ⟨by decide, ?_⟩)) (qN D) 0 L4 _ 1 (Nat.zero_add _) fK_rf b16 b18 (Nat.gcd_one_right _) (by rw [tv]; rfl)
  have htv := tv_b (p := p) (c := fun i => bt s i = 1 ∧ 0 < p i i) (qN D) (fun i hi => ⟨Int.le_trans (hr.2 i i (Nat.le_refl i) hi).2.1 hW.2, fun z => z.2⟩)
  have hres := res_of (I' := I4) (L' := L5) (by omega) s4 c16 c18 hg he
  have hcm := (cmn_b h.1 (qN D) (Nat.le_refl _)).1
  have hsum := tu_sum h.1 hr s (qN D) (Nat.le_refl _)
  have e := rN_eq (a := tu (qW D) p (fun i => bt s i = 1 ∧ 0 < p i i) (qN D) * W) (b := tv p (fun i => bt s i = 1 ∧ 0 < p i i) (qN D)) (c := tD D s (qN D)) (d := cmn D (qN D)) (by omega) (by omega) (by
    have e2 : tu (qW D) p (fun i => bt s i = 1 ∧ 0 < p i i) (qN D) * W * cmn D (qN D) = W * cmn D (qN D) * tu (qW D) p (fun i => bt s i = 1 ∧ 0 < p i i) (qN D) := by grind
    rw [e2, hsum, Int.mul_comm])
  rw [e.1, e.2] at hres
  have := kR_res h1 f4 (fK_tr fk4 f6) hres
  exact hQ _ _ ⟨fun a ha => (this.2.1 a ha).trans (fr1.1 a ha), fun a ha => (this.2.2 a ha).trans (fr1.2 a ha)⟩ this.1
end KT
