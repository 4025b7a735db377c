/-! long division: what the digits say -/
theorem nS_shift (z : Nat → Int) (k : Nat) : ∀ n, nS z (k + n) = nS z k + nB ^ k * nS (fun i => z (k + i)) n
  | 0 => by simp [nS]
  | n + 1 => by
    show nS z (k + n) + z (k + n) * nB ^ (k + n) = nS z k + nB ^ k * (nS (fun i => z (k + i)) n + z (k + n) * nB ^ n)
    rw [nS_shift z k n, nB_add, Int.mul_add, Int.mul_left_comm, Int.add_assoc]
theorem nC_np {z : Nat → Int} : ∀ {n : Nat}, (∀ k, k < n → z k ≤ 999999999) → nC z n ≤ 0
  | 0, _ => Int.le_refl 0
  | n + 1, h => by
    have ih := nC_np (n := n) (fun k hk => h k (Nat.lt_succ_of_lt hk))
    have := h n (Nat.lt_succ_self n)
    show (z n + nC z n) / 1000000000 ≤ 0
    omega
theorem gS (p q : Nat → Int64) (t : Int) (up : Nat) : ∀ n, nS (gZ p q t up) n = nS (fun k => (p (up + k)).toInt) n - t * vS q n
  | 0 => by simp [nS, vS]
  | n + 1 => by
    show nS (gZ p q t up) n + gZ p q t up n * nB ^ n = nS (fun k => (p (up + k)).toInt) n + (p (up + n)).toInt * nB ^ n - t * (vS q n + (q n).toInt * nB ^ n)
    rw [gS p q t up n]
    unfold gZ
    rw [Nat.add_comm n up, Int.sub_mul, Int.mul_add, Int.mul_assoc]
    omega
theorem dv_iff {P S A Y t : Int} (hP : 0 < P) (h0 : 0 ≤ S) (h1 : S < P) : 0 ≤ A - t * Y ↔ t * (P * Y) ≤ S + P * A := by
  rw [Int.mul_left_comm]
  constructor
  · intro h
    have : P * (t * Y) ≤ P * A := Int.mul_le_mul_of_nonneg_left (by omega) (Int.le_of_lt hP)
    omega
  · intro h
    rcases Int.lt_or_le (A - t * Y) 0 with c | c
    · have : P * (A + 1) ≤ P * (t * Y) := Int.mul_le_mul_of_nonneg_left (by omega) (Int.le_of_lt hP)
      rw [Int.mul_add, Int.mul_one] at this
      omega
    · exact c
theorem vS_shift (p : Nat → Int64) {up : Nat} (h : up ≤ 44) : vS p 44 = vS p up + nB ^ up * nS (fun i => (p (up + i)).toInt) (44 - up) := by
  have := nS_shift (fun k => (p k).toInt) up (44 - up)
  rw [show up + (44 - up) = 44 by omega] at this
  exact this
theorem goes_np {p q : Nat → Int64} {up : Nat} {t : Int} (hp : dR p) (hq : dR q) (ht : 0 ≤ t) : ∀ {n : Nat}, up + n ≤ 44 → nC (gZ p q t up) n ≤ 0 := by
  intro n hn
  refine nC_np (fun k hk => ?_)
  unfold gZ
  have h1 := hp (k + up) (by omega)
  have h2 : 0 ≤ t * (q k).toInt := Int.mul_nonneg ht (hq k (by omega)).1
  omega
theorem goes_iff {p q : Nat → Int64} {up : Nat} {t : Int} (hp : dR p) (hq : dR q) (ht : 0 ≤ t) (hup : up ≤ 44) (hq0 : ∀ k, 44 - up ≤ k → k < 44 → (q k).toInt = 0) : nC (gZ p q t up) (44 - up) = 0 ↔ t * (nB ^ up * vS q 44) ≤ vS p 44 := by
  rw [nC_sgn (goes_np hp hq ht (by omega)), gS, vS_shift p hup, vS_cut (n := 44 - up) (by omega) hq0]
  have b := nS_bound (z := fun k => (p k).toInt) (n := up) (fun k hk => hp k (by omega))
  exact dv_iff (nB_pow up) b.1 b.2
/-- what is left once t times right is off -/
theorem sub_val {p p2 q : Nat → Int64} {up : Nat} {t : Int} (hup : up ≤ 44) (hq0 : ∀ k, 44 - up ≤ k → k < 44 → (q k).toInt = 0) (h0 : nC (gZ p q t up) (44 - up) = 0) (hl : ∀ i, i < up → p2 i = p i) (hh : ∀ i, i < 44 - up → (p2 (up + i)).toInt = nD (gZ p q t up) i) : vS p2 44 = vS p 44 - t * (nB ^ up * vS q 44) := by
  have e := nC_sum (gZ p q t up) (44 - up)
  rw [h0, Int.zero_mul, Int.add_zero, gS] at e
  rw [vS_shift p hup, vS_shift p2 hup, vS_cut (n := 44 - up) (by omega) hq0, nS_cong (z := fun i => (p2 (up + i)).toInt) hh, e, Int.mul_sub, Int.mul_left_comm]
  have : vS p2 up = vS p up := nS_cong (fun k hk => by show (p2 k).toInt = (p k).toInt; rw [hl k hk])
  rw [this]
  omega
section DV
variable {L0 : Nat} {xs : Nat → Int32} {Q : xiQ} {I : Nat → Nat → Int32} {L : Nat → Nat → Int64} {f p q r : Nat → Int64}
theorem m_1L : (1 : Int64).toInt = 1 := by decide
theorem c_parts_bs {v1 v2 v3 v5 : Int32} {k j0 : Nat} {Y R : Int} (hk : k + j0 ≤ 44) (hk2 : k < 44) (hp : dR p) (hq : dR q) (hj0q : ∀ i, j0 ≤ i → i < 44 → (q i).toInt = 0) (hY : Y = nB ^ k * vS q 44) (hR : R = vS p 44)
    (hQ : ∀ (t w9 : Int64), 0 ≤ t.toInt → t.toInt < 1000000000 → t.toInt * Y ≤ R → R < (t.toInt + 1) * Y → xi_V (xG L0 xs) 119 172 [some (Value.ref 37), some (Value.int v1), some (Value.int v2), some (Value.int v3), some (Value.int (nI j0)), some (Value.int v5), some (Value.int (nI k)), some (Value.long t), none, some (Value.long w9), none, some (Value.long ((0 : Int64))), none, some (Value.int ((0 : Int32))), none, none] [] (xSH, xRF, I, mL L f p q (m_u r k t)) 0 0 Q) :
    ∀ (n : Nat) (lo hi : Int64), (hi.toInt - lo.toInt).toNat ≤ n → 0 ≤ lo.toInt → lo.toInt ≤ hi.toInt → hi.toInt ≤ 999999999 → lo.toInt * Y ≤ R → R < (hi.toInt + 1) * Y →
      xi_V (xG L0 xs) 119 107 [some (Value.ref 37), some (Value.int v1), some (Value.int v2), some (Value.int v3), some (Value.int (nI j0)), some (Value.int v5), some (Value.int (nI k)), some (Value.long lo), none, some (Value.long hi), none, none, none, none, none, none] [] (xSH, xRF, I, mL L f p q r) 0 0 Q := by
  intro n
  have done : ∀ (lo hi : Int64), lo = hi → 0 ≤ lo.toInt → lo.toInt ≤ 999999999 → lo.toInt * Y ≤ R → R < (hi.toInt + 1) * Y → xi_V (xG L0 xs) 119 107 [some (Value.ref 37), some (Value.int v1), some (Value.int v2), some (Value.int v3), some (Value.int (nI j0)), some (Value.int v5), some (Value.int (nI k)), some (Value.long lo), none, some (Value.long hi), none, none, none, none, none, none] [] (xSH, xRF, I, mL L f p q r) 0 0 Q := by
    intro lo hi e h0 h2 h3 h4
    subst e
    refine b_M_parts_107 ⟨fun _ => ?_, fun c => absurd (m_cmp0.mpr (fun z => by rw [Int64.lt_iff_toInt_lt] at z; omega)) c⟩
    rw [m_k hk2, mL_u49]
    exact ⟨m_v hk2, hQ lo lo h0 (by clear hY hR; omega) h3 h4⟩
  induction n with
  | zero =>
    intro lo hi hn h0 h1 h2 h3 h4
    exact done lo hi (Int64.toInt_inj.mp (by clear hY hR; omega)) h0 (by clear hY hR; omega) h3 h4
  | succ n ih =>
    intro lo hi hn h0 h1 h2 h3 h4
    by_cases e : lo = hi
    · exact done lo hi e h0 (by clear hY hR; omega) h3 h4
    · have e2 : lo.toInt ≠ hi.toInt := fun z => e (Int64.toInt_inj.mp z)
      have a1 : (lo + hi).toInt = lo.toInt + hi.toInt := fb_addL (by clear hY hR; omega) (by clear hY hR; omega)
      have a2 : (lo + hi + 1).toInt = lo.toInt + hi.toInt + 1 := by rw [fb_addL (by rw [a1, m_1L]; clear hY hR; omega) (by rw [a1, m_1L]; clear hY hR; omega), a1, m_1L]
      have d := m_d2 (x := lo + hi + 1) (by rw [a2]; clear hY hR; omega)
      obtain ⟨m, em⟩ : ∃ m : Int64, m = (lo + hi + 1) / 2 := ⟨_, rfl⟩
      have hm : m.toInt = (lo.toInt + hi.toInt + 1) / 2 := by rw [em, d.1, a2]
      clear d a1 a2 done
      refine b_M_parts_107 ⟨fun c => absurd ?_ (m_cmp0.mp c), fun _ => ⟨by decide, ?_⟩⟩
      · rw [Int64.lt_iff_toInt_lt]; clear hY hR; omega
      rw [← em]
      clear em
      have hm1 : 0 ≤ m.toInt ∧ m.toInt < 1000000000 := by clear hY hR; omega
      refine c_goes (by clear hY hR; omega) (by clear hY hR; omega) hp hq hj0q hm1 ?_
      have gi := goes_iff (t := m.toInt) hp hq hm1.1 (show k ≤ 44 by clear hY hR; omega) (fun i h1 h2 => hj0q i (by clear hY hR; omega) h2)
      rw [← hY, ← hR] at gi
      refine b_M_parts_138 ⟨fun c => ?_, fun c => ?_⟩
      · have hn2 : ¬ nC (gZ p q m.toInt k) (44 - k) = 0 := fun z => by rw [if_pos z] at c; exact absurd c (by decide)
        have hlt : R < m.toInt * Y := Int.not_le.mp (fun z => hn2 (gi.mpr z))
        have s1 : (m - 1).toInt = m.toInt - 1 := by rw [fb_subL (by rw [m_1L]; clear hY hR; omega) (by rw [m_1L]; clear hY hR; omega), m_1L]
        exact ih lo (m - 1) (by rw [s1]; clear hY hR gi; omega) h0 (by rw [s1]; clear hY hR gi; omega) (by rw [s1]; clear hY hR gi; omega) h3 (by rw [s1, Int.sub_add_cancel]; exact hlt)
      · have hp2 : nC (gZ p q m.toInt k) (44 - k) = 0 := by
          by_cases z : nC (gZ p q m.toInt k) (44 - k) = 0
          · exact z
          · rw [if_neg z] at c; exact absurd rfl c
        exact ih m hi (by clear hY hR gi; omega) hm1.1 (by clear hY hR gi; omega) h2 (gi.mp hp2) h4
theorem c_parts_sub {v1 v2 v3 v5 : Int32} {w7 w9 : Int64} {k j0 : Nat} (hk : k + j0 ≤ 44) (hk2 : k < 44) (hp : dR p) (hq : dR q) (hj0q : ∀ i, j0 ≤ i → i < 44 → (q i).toInt = 0) (ht : 0 ≤ w7.toInt ∧ w7.toInt < 1000000000) (h0 : nC (gZ p q w7.toInt k) (44 - k) = 0)
    (hQ : ∀ p2, dR p2 → vS p2 44 = vS p 44 - w7.toInt * (nB ^ k * vS q 44) → xi_V (xG L0 xs) 119 94 [some (Value.ref 37), some (Value.int v1), some (Value.int v2), some (Value.int v3), some (Value.int (nI j0)), some (Value.int v5), some (Value.int (dn k)), none, none, none, none, none, none, none, none, none] [] (xSH, xRF, I, mL L f p2 q r) 0 0 Q) :
    ∀ (n j : Nat) (p2 : Nat → Int64) (w : Int64), j + k + n = 44 → (∀ i, i < k ∨ k + j ≤ i → p2 i = p i) → (∀ i, i < j → (p2 (k + i)).toInt = nD (gZ p q w7.toInt k) i) → w.toInt = -nC (gZ p q w7.toInt k) j → -999999999 ≤ nC (gZ p q w7.toInt k) j → nC (gZ p q w7.toInt k) j ≤ 0 →
      xi_V (xG L0 xs) 119 172 [some (Value.ref 37), some (Value.int v1), some (Value.int v2), some (Value.int v3), some (Value.int (nI j0)), some (Value.int v5), some (Value.int (nI k)), some (Value.long w7), none, some (Value.long w9), none, some (Value.long w), none, some (Value.int (nI j)), none, none] [] (xSH, xRF, I, mL L f p2 q r) 0 0 Q := by
  have fin : ∀ p2 : Nat → Int64, (∀ i, i < k → p2 i = p i) → (∀ i, i < 44 - k → (p2 (k + i)).toInt = nD (gZ p q w7.toInt k) i) → xi_V (xG L0 xs) 119 94 [some (Value.ref 37), some (Value.int v1), some (Value.int v2), some (Value.int v3), some (Value.int (nI j0)), some (Value.int v5), some (Value.int (dn k)), none, none, none, none, none, none, none, none, none] [] (xSH, xRF, I, mL L f p2 q r) 0 0 Q := by
    intro p2 a1 a2
    refine hQ p2 (fun i hi => ?_) (sub_val (by omega) (fun i b1 b2 => hj0q i (by omega) b2) h0 a1 a2)
    rcases Nat.lt_or_ge i k with z | z
    · rw [a1 i z]; exact hp i hi
    · have := a2 (i - k) (by omega)
      rw [show k + (i - k) = i by omega] at this
      rw [this]; exact nD_rng _ _
  intro n
  induction n with
  | zero =>
    intro j p2 w hn i1 i2 hw h1 h2
    refine b_M_parts_172 ⟨fun _ => ?_, fun c => ?_⟩
    · rw [dn_s]
      exact fin p2 (fun i hi => i1 i (Or.inl hi)) (fun i hi => i2 i (by omega))
    · rw [nI_add] at c
      exact absurd (by rw [m_44]; exact nI_le (by omega) (by omega)) c
  | succ n ih =>
    intro j p2 w hn i1 i2 hw h1 h2
    have x1 : j + k < 44 := by omega
    have x2 : j < 44 := by omega
    have go : xi_V (xG L0 xs) 119 196 [some (Value.ref 37), some (Value.int v1), some (Value.int v2), some (Value.int v3), some (Value.int (nI j0)), some (Value.int v5), some (Value.int (nI k)), some (Value.long w7), none, some (Value.long w9), none, some (Value.long w), none, some (Value.int (nI j)), none, none] [] (xSH, xRF, I, mL L f p2 q r) 0 0 Q := by
      refine b_M_parts_196 ?_
      rw [nI_add, m_k x1, m_k x2, mL_47, mL_48, i1 (j + k) (Or.inr (by omega))]
      have a2 := g_cell (hp (j + k) x1) (hq j x2) ht hw ⟨h1, h2⟩
      refine ⟨m_v x1, m_v x2, c_floorDivL fun s hs => b_M_parts_230 (c_floorModL fun s2 hs2 => b_M_parts_250 ?_)⟩
      rw [nI_add, nI_1, m_k x1, mL_u47]
      rw [a2.1] at hs hs2
      have hs3 : s.toInt = nC (gZ p q w7.toInt k) (j + 1) := hs
      have hs4 : s2.toInt = nD (gZ p q w7.toInt k) j := hs2
      have e1 : (-s).toInt = -nC (gZ p q w7.toInt k) (j + 1) := by
        rw [Int64.toInt_neg, fb_bmodL (by rw [hs]; omega) (by rw [hs]; omega), hs3]
      refine ⟨m_v x1, ih (j + 1) _ (-s) (by omega) (fun i hi => ?_) (fun i hi => ?_) e1 (by rw [← hs3, hs]; exact a2.2.1) (by rw [← hs3, hs]; exact a2.2.2)⟩
      · rw [m_un (by omega)]
        exact i1 i (by omega)
      · by_cases e : i = j
        · subst e
          rw [Nat.add_comm k i, m_us, hs4]
        · rw [m_un (by omega)]
          exact i2 i (by omega)
    refine b_M_parts_172 ⟨fun c => ?_, fun _ => ⟨fun _ => go, fun c2 => ⟨fun c3 => ?_, fun _ => go⟩⟩⟩
    · rw [nI_add] at c
      exact absurd c (by rw [m_44]; exact nI_ge x1 (by decide))
    · clear go
      have hj : j0 ≤ j := by
        rcases Nat.lt_or_ge j j0 with z | z
        · exact absurd (nI_lt z (by omega)) c2
        · exact z
      rw [m_cmpE, m_eq0, hw] at c3
      have hc : nC (gZ p q w7.toInt k) j = 0 := by omega
      rw [dn_s]
      refine fin p2 (fun i hi => i1 i (Or.inl hi)) (fun i hi => ?_)
      rcases Nat.lt_or_ge i j with z | z
      · exact i2 i z
      · have g0 : ∀ m, j ≤ m → m < 44 - k → gZ p q w7.toInt k m = (p (m + k)).toInt := fun m b1 b2 => by
          unfold gZ
          rw [hj0q m (by omega) (by omega), Int.mul_zero, Int.sub_zero]
        have st := nC_stay hc (i - j) (fun m b1 b2 => by rw [g0 m b1 (by omega)]; exact hp _ (by omega))
        rw [show j + (i - j) = i by omega] at st
        have hpi := hp (i + k) (by omega)
        rw [i1 (k + i) (Or.inr (by omega)), Nat.add_comm k i]
        unfold nD
        rw [st, g0 i z hi]
        omega
theorem nS_low {z : Nat → Int} {n : Nat} (h : ∀ k, k < n + 1 → 0 ≤ z k) (hn : 0 < z n) : nB ^ n ≤ nS z (n + 1) := by
  have a : ∀ m, (∀ k, k < m → 0 ≤ z k) → 0 ≤ nS z m := by
    intro m
    induction m with
    | zero => intro _; exact Int.le_refl 0
    | succ m ih =>
      intro h
      have := ih (fun k hk => h k (by omega))
      have : 0 ≤ z m * nB ^ m := Int.mul_nonneg (h m (by omega)) (Int.le_of_lt (nB_pow m))
      show 0 ≤ nS z m + z m * nB ^ m
      omega
  have b := a n (fun k hk => h k (by omega))
  have c : 1 * nB ^ n ≤ z n * nB ^ n := Int.mul_le_mul_of_nonneg_right (by omega) (Int.le_of_lt (nB_pow n))
  show nB ^ n ≤ nS z n + z n * nB ^ n
  omega
theorem c_parts_out {v1 v2 v3 v5 : Int32} {j0 : Nat} {X Y : Int} (hj0 : j0 ≤ 44) (hj1 : 1 ≤ j0) (hq : dR q) (hj0q : ∀ i, j0 ≤ i → i < 44 → (q i).toInt = 0) (hY : Y = vS q 44) (hY0 : 0 < Y) (hX : X < nB ^ 44)
    (hQ : ∀ p2 r2, dR r2 → vS r2 44 = X / Y → xi_V (xG L0 xs) 119 266 [some (Value.ref 37), some (Value.int v1), some (Value.int v2), some (Value.int v3), some (Value.int (nI j0)), some (Value.int v5), some (Value.int ((0 : Int32))), none, none, none, none, none, none, none, none, none] [] (xSH, xRF, I, mL L f p2 q r2) 0 0 Q) :
    ∀ (m : Nat) (p2 r2 : Nat → Int64), (m = 0 ∨ m + j0 ≤ 45) → dR p2 → dR r2 → (∀ i, i < m → r2 i = 0) → vS p2 44 + vS r2 44 * Y = X → vS p2 44 < nB ^ m * Y → xi_V (xG L0 xs) 119 94 [some (Value.ref 37), some (Value.int v1), some (Value.int v2), some (Value.int v3), some (Value.int (nI j0)), some (Value.int v5), some (Value.int (dn m)), none, none, none, none, none, none, none, none, none] [] (xSH, xRF, I, mL L f p2 q r2) 0 0 Q
  | 0, p2, r2, _, dp, dr, _, hs, hl => by
    refine b_M_parts_94 ⟨fun _ => hQ p2 r2 dr ?_, fun c => absurd (by decide) c⟩
    have h0 := vS_nn dp (Nat.le_refl 44)
    rw [show nB ^ 0 = 1 from rfl, Int.one_mul] at hl
    rw [← hs, Int.add_mul_ediv_right _ _ (Int.ne_of_gt hY0), Int.ediv_eq_zero_of_lt h0 hl, Int.zero_add]
  | m + 1, p2, r2, hm, dp, dr, hz, hs, hl => by
    have x1 : m + j0 ≤ 44 := by clear hs hl hX; omega
    have x2 : m < 44 := by clear hs hl hX; omega
    refine b_M_parts_94 ⟨fun c => absurd c (nI_pos (by clear hs hl hX; omega)), fun _ => ?_⟩
    have hl2 : vS p2 44 < (999999999 + 1) * (nB ^ m * Y) := by
      rw [Int.pow_succ, Int.mul_comm (nB ^ m), Int.mul_assoc] at hl
      exact hl
    refine c_parts_bs (p := p2) (k := m) (Y := nB ^ m * Y) x1 x2 dp hq hj0q (by rw [hY]) rfl (fun t w9 t0 t1 t2 t3 => ?_) 1000000000 0 999999999 (by decide) (by decide) (by decide) (by decide) (by rw [m_z0, Int.zero_mul]; exact vS_nn dp (Nat.le_refl 44)) hl2
    have g := (goes_iff (t := t.toInt) (up := m) dp hq t0 (Nat.le_of_lt x2) (fun i h1 h2 => hj0q i (by clear hs hl hl2 hX t2 t3; omega) h2)).mpr (by rw [← hY]; exact t2)
    refine c_parts_sub (p := p2) (k := m) x1 x2 dp hq hj0q ⟨t0, t1⟩ g (fun p3 d3 e3 => ?_) (44 - m) 0 p2 0 (by clear hs hl hl2 hX t2 t3; omega) (fun i _ => rfl) (fun i hi => absurd hi (Nat.not_lt_zero i)) (show (0 : Int64).toInt = -(0 : Int) by decide) (show (-999999999 : Int) ≤ 0 by decide) (show (0 : Int) ≤ 0 by decide)
    rw [← hY] at e3
    refine c_parts_out hj0 hj1 hq hj0q hY hY0 hX hQ m p3 (m_u r2 m t) (Or.inr (by clear hs hl hl2 hX t2 t3 e3; omega)) d3 (dR_u dr ⟨t0, t1⟩) (fun i hi => ?_) ?_ ?_
    · rw [m_un (by clear hs hl hl2 hX t2 t3 e3; omega)]
      exact hz i (by clear hs hl hl2 hX t2 t3 e3; omega)
    · rw [vS_u x2, hz m (Nat.lt_succ_self m), m_z0, Int.sub_zero, e3, Int.add_mul, Int.mul_assoc t.toInt, ← hs]
      generalize t.toInt * (nB ^ m * Y) = a1
      generalize vS r2 44 * Y = a2
      omega
    · rw [e3]
      rw [Int.add_mul, Int.one_mul] at t3
      generalize t.toInt * (nB ^ m * Y) = a1 at *
      generalize nB ^ m * Y = a2 at *
      clear hX hs hl hl2
      omega
end DV
